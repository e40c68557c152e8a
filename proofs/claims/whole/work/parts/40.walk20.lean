theorem hd_X6_copies : yX6_copies.cls = RX6 ∧ yX6_copies.cls ≠ "java/lang/invoke/MethodHandle" ∧ yX6_copies.cls ≠ "java/lang/invoke/VarHandle" ∧ (parseMethodDescriptor yX6_copies.desc).map (fun d => d.parameters.length) = some 2 := by decide +kernel
abbrev rm_X6_copies : Room := { frames := 0, cells := 0, slots := 0, locals := 0 }
abbrev q_X6_copies (dC : Nat → ClassId) (dI : Nat → Nat → Nat) (cI cJ cZ : ClassId) (ht ht_drops ht_tires ht_now ht_told ht_text ht_pages ht_row ht_alike ht_table ht_keys ht_own ht_isKept ht_kept : Nat) (vt_clerks : Int32) (vt_length : Int32) (vt_acts : Int32) (vt_next : Int32) (vt_found : Int32) (vt_seed : Int64) (vt_now : Nat → Int32) (R : Int32) (A : Nat → Prop) : Array Value → State → Outcome → State → Prop := va_Qi (fun (r : Int32) (_ : Unit) => R = r) (fun (u : Unit) (t : State) => va_P (dC, dI) vwCl [(ht, .inr (5, [.int vt_clerks, .ref ht_drops, .ref ht_tires, .ref ht_now, .ref ht_told, .ref ht_text, .int vt_length, .ref ht_pages, .int vt_acts, .int vt_next, .ref ht_row, .int vt_found, .ref ht_alike, .ref ht_table, .ref ht_keys, .ref ht_own, .long vt_seed, .ref ht_isKept, .ref ht_kept])), (ht_now, .inl (cI, 13, .inl vt_now))] t.heap ∧ va_K (dC, dI) vwCl [(cI, .int), (cJ, .long), (cZ, .boolean)] t ∧ va_D A [(ht, .inr (5, [.int vt_clerks, .ref ht_drops, .ref ht_tires, .ref ht_now, .ref ht_told, .ref ht_text, .int vt_length, .ref ht_pages, .int vt_acts, .int vt_next, .ref ht_row, .int vt_found, .ref ht_alike, .ref ht_table, .ref ht_keys, .ref ht_own, .long vt_seed, .ref ht_isKept, .ref ht_kept])), (ht_now, .inl (cI, 13, .inl vt_now))]) A
set_option maxHeartbeats 4000000 in
set_option maxRecDepth 100000 in
theorem k_X6_copies (l : Launch) (dC : Nat → ClassId) (dI : Nat → Nat → Nat) (cI cJ cZ : ClassId) (sz : Nat) (ht ht_drops ht_tires ht_now ht_told ht_text ht_pages ht_row ht_alike ht_table ht_keys ht_own ht_isKept ht_kept : Nat) (a1 : Int32) (a2 : Int32) (vt_clerks : Int32) (vt_length : Int32) (vt_acts : Int32) (vt_next : Int32) (vt_found : Int32) (vt_seed : Int64) (vt_now : Nat → Int32) (N : Nat) (R : Int32) (hf : f_X6_copies N a1 a2 vt_now = some R) : Met l yX6_copies wsX6_copies (rm_X6_copies) (va_Pc [.ref ht, .int a1, .int a2] (fun U => U.heap.size = sz ∧ va_P (dC, dI) vwCl [(ht, .inr (5, [.int vt_clerks, .ref ht_drops, .ref ht_tires, .ref ht_now, .ref ht_told, .ref ht_text, .int vt_length, .ref ht_pages, .int vt_acts, .int vt_next, .ref ht_row, .int vt_found, .ref ht_alike, .ref ht_table, .ref ht_keys, .ref ht_own, .long vt_seed, .ref ht_isKept, .ref ht_kept])), (ht_now, .inl (cI, 13, .inl vt_now))] U.heap ∧ va_K (dC, dI) vwCl [(cI, .int), (cJ, .long), (cZ, .boolean)] U ∧ va_D (fun _ => True) [(ht, .inr (5, [.int vt_clerks, .ref ht_drops, .ref ht_tires, .ref ht_now, .ref ht_told, .ref ht_text, .int vt_length, .ref ht_pages, .int vt_acts, .int vt_next, .ref ht_row, .int vt_found, .ref ht_alike, .ref ht_table, .ref ht_keys, .ref ht_own, .long vt_seed, .ref ht_isKept, .ref ht_kept])), (ht_now, .inl (cI, 13, .inl vt_now))])) (q_X6_copies dC dI cI cJ cZ ht ht_drops ht_tires ht_now ht_told ht_text ht_pages ht_row ht_alike ht_table ht_keys ht_own ht_isKept ht_kept vt_clerks vt_length vt_acts vt_next vt_found vt_seed vt_now R (va_A [(ht, .inr (5, [.int vt_clerks, .ref ht_drops, .ref ht_tires, .ref ht_now, .ref ht_told, .ref ht_text, .int vt_length, .ref ht_pages, .int vt_acts, .int vt_next, .ref ht_row, .int vt_found, .ref ht_alike, .ref ht_table, .ref ht_keys, .ref ht_own, .long vt_seed, .ref ht_isKept, .ref ht_kept])), (ht_now, .inl (cI, 13, .inl vt_now))] sz)) 0 0 (va_A [(ht, .inr (5, [.int vt_clerks, .ref ht_drops, .ref ht_tires, .ref ht_now, .ref ht_told, .ref ht_text, .int vt_length, .ref ht_pages, .int vt_acts, .int vt_next, .ref ht_row, .int vt_found, .ref ht_alike, .ref ht_table, .ref ht_keys, .ref ht_own, .long vt_seed, .ref ht_isKept, .ref ht_kept])), (ht_now, .inl (cI, 13, .inl vt_now))] sz) := by
  refine Met.ofW (cc := cX6_copies) (maxL := 4) (ret := (some .boolean)) (by decide) rfl ?_
  intro p e s m args below meth c s₁ B hml hv
  obtain ⟨rfl, hsz, hP, hK, hD0⟩ := hv
  have hx := B.exec
  have hb := B.bytes
  have hr := B.returns
  have hts := atoms_spec (ws := wsX6_copies) B.pre
  have hown : s.vm.findClass RX6 = some m.cls := findClass_of_methodNamed B.named
  have hlocks := B.notSynchronized
  clear B
  subst hsz
  have hw0 := hts (.fieldLink RX6 16 "ShorthandCourtModel" "now" "[I") (by decide +kernel)
  have hinX6 : ∀ w ∈ u_ws RX6 TX6 19, w ∈ wsX6_copies := by decide +kernel
  have hD := hD0.self (sz := s.heap.size)
  clear hD0
  generalize hAe : va_A [(ht, .inr (5, [.int vt_clerks, .ref ht_drops, .ref ht_tires, .ref ht_now, .ref ht_told, .ref ht_text, .int vt_length, .ref ht_pages, .int vt_acts, .int vt_next, .ref ht_row, .int vt_found, .ref ht_alike, .ref ht_table, .ref ht_keys, .ref ht_own, .long vt_seed, .ref ht_isKept, .ref ht_kept])), (ht_now, .inl (cI, 13, .inl vt_now))] s.heap.size = A at hD ⊢
  have hA : ∀ q : Nat, s.heap.size ≤ q → A q := fun q h => by rw [← hAe]; exact Or.inr h
  clear hAe
  have hS : va_S A s.heap s.heap [] := va_S.rf
  have hl := lv_entry ([.ref ht, .int a1, .int a2]) (n := 4) (Nat.le_of_ble_eq_true rfl)
  rw [lg_entry_eq]
  generalize (lg_sl ([.ref ht, .int a1, .int a2]) ++ List.replicate (4 - (lg_sl ([.ref ht, .int a1, .int a2])).length) Slot.unset).toArray = ls at hl ⊢
  have hl : lv_has ls 4 [(0, .ref ht), (1, .int a1), (2, .int a2)] := hl
  unfold f_X6_copies at hf
  refine lv_aload_n hx hb dX6_copies_0 rfl (lv_at hl 0 rfl) ?_
  refine va_get (D := (dC, dI)) (ci := 5) (v := .ref ht_now) (C := RX6) (T := TX6) (N := 19) hx hb hts hinX6 hown hK hP 0 rfl rfl 3 (by decide) hw0 (fun _ h9 => h9) rfl dX6_copies_1 ?_
  refine lv_bipush (v := 9) hx hb dX6_copies_4 (by decide) ?_
  refine lv_iload_n hx hb dX6_copies_6 rfl (lv_at hl 1 rfl) ?_
  refine lv_iadd hx hb dX6_copies_7 ?_
  obtain ⟨hi1, hf⟩ := dg_ix hf
  refine va_iald hx hb hK hP 1 0 rfl rfl hi1 dX6_copies_8 ?_
  refine lv_istore_n (lv' := [(3, .int (vt_now ((9:Int32) + a1).toNatClampNeg)), (0, .ref ht), (1, .int a1), (2, .int a2)]) hx hb dX6_copies_9 rfl hl (by decide) rfl (fun ls hl => ?_)
  have ex10 : ∀ (z3_10 : Int32) (H : Heap) (locs : List Loc) (ls : Array Slot), va_P (dC, dI) vwCl [(ht, .inr (5, [.int vt_clerks, .ref ht_drops, .ref ht_tires, .ref ht_now, .ref ht_told, .ref ht_text, .int vt_length, .ref ht_pages, .int vt_acts, .int vt_next, .ref ht_row, .int vt_found, .ref ht_alike, .ref ht_table, .ref ht_keys, .ref ht_own, .long vt_seed, .ref ht_isKept, .ref ht_kept])), (ht_now, .inl (cI, 13, .inl vt_now))] H → va_D A [(ht, .inr (5, [.int vt_clerks, .ref ht_drops, .ref ht_tires, .ref ht_now, .ref ht_told, .ref ht_text, .int vt_length, .ref ht_pages, .int vt_acts, .int vt_next, .ref ht_row, .int vt_found, .ref ht_alike, .ref ht_table, .ref ht_keys, .ref ht_own, .long vt_seed, .ref ht_isKept, .ref ht_kept])), (ht_now, .inl (cI, 13, .inl vt_now))] → va_S A s.heap H locs → lv_has ls 4 [(3, .int z3_10), (0, .ref ht), (1, .int a1), (2, .int a2)] → (if z3_10 = a2 then some (1:Int32) else some (0:Int32)) = some R → W p l e (rm_X6_copies) s m ([.ref ht, .int a1, .int a2] : List Value).toArray below meth c H locs 0 0 (MQ below (q_X6_copies dC dI cI cJ cZ ht ht_drops ht_tires ht_now ht_told ht_text ht_pages ht_row ht_alike ht_table ht_keys ht_own ht_isKept ht_kept vt_clerks vt_length vt_acts vt_next vt_found vt_seed vt_now R A) ([.ref ht, .int a1, .int a2] : List Value).toArray s 0 0 A) (F0 m 34 ls []) := by
    intro z3_10 H locs ls hP hD hS hl hf
    refine lv_iload_n hx hb dX6_copies_34 rfl (lv_at hl 0 rfl) ?_
    refine lv_iload_n hx hb dX6_copies_35 rfl (lv_at hl 3 rfl) ?_
    refine lv_icmp_ne (tgt := 43) hx hb dX6_copies_36 (by decide) (fun c2 => ?_) (fun c2 => ?_)
    · replace hf := dg_f c2 hf
      refine lv_iconst (v := 0) hx hb dX6_copies_43 (by decide) ?_
      have he := Option.some.inj hf
      have hP9 := hP
      have hD9 := hD
      exact W.zret (v := (0:Int32)) (ty := .boolean) hx hb hr (by decide) (fun t eth hW => ⟨⟨(0:Int32), (), rfl, he.symm, by rw [eth]; exact hP9, va_K.moved hW.alike hK, hD9⟩, hS.F eth⟩) hS.2.2 dX6_copies_44
    · replace hf := dg_t c2 hf
      refine lv_iconst (v := 1) hx hb dX6_copies_39 (by decide) ?_
      refine lv_goto (tgt := 44) hx hb dX6_copies_40 (by decide) ?_
      have he := Option.some.inj hf
      have hP9 := hP
      have hD9 := hD
      exact W.zret (v := (1:Int32)) (ty := .boolean) hx hb hr (by decide) (fun t eth hW => ⟨⟨(1:Int32), (), rfl, he.symm, by rw [eth]; exact hP9, va_K.moved hW.alike hK, hD9⟩, hS.F eth⟩) hS.2.2 dX6_copies_44
  have lp10 : ∀ (n10 : Nat) (y3_10 : Int32) (H : Heap) (locs : List Loc) (ls : Array Slot), va_P (dC, dI) vwCl [(ht, .inr (5, [.int vt_clerks, .ref ht_drops, .ref ht_tires, .ref ht_now, .ref ht_told, .ref ht_text, .int vt_length, .ref ht_pages, .int vt_acts, .int vt_next, .ref ht_row, .int vt_found, .ref ht_alike, .ref ht_table, .ref ht_keys, .ref ht_own, .long vt_seed, .ref ht_isKept, .ref ht_kept])), (ht_now, .inl (cI, 13, .inl vt_now))] H → va_D A [(ht, .inr (5, [.int vt_clerks, .ref ht_drops, .ref ht_tires, .ref ht_now, .ref ht_told, .ref ht_text, .int vt_length, .ref ht_pages, .int vt_acts, .int vt_next, .ref ht_row, .int vt_found, .ref ht_alike, .ref ht_table, .ref ht_keys, .ref ht_own, .long vt_seed, .ref ht_isKept, .ref ht_kept])), (ht_now, .inl (cI, 13, .inl vt_now))] → va_S A s.heap H locs → lv_has ls 4 [(3, .int y3_10), (0, .ref ht), (1, .int a1), (2, .int a2)] → f_X6_copies_10 N a2 vt_now (fun z3_10 => if z3_10 = a2 then some (1:Int32) else some (0:Int32)) n10 y3_10 = some R → W p l e (rm_X6_copies) s m ([.ref ht, .int a1, .int a2] : List Value).toArray below meth c H locs 0 0 (MQ below (q_X6_copies dC dI cI cJ cZ ht ht_drops ht_tires ht_now ht_told ht_text ht_pages ht_row ht_alike ht_table ht_keys ht_own ht_isKept ht_kept vt_clerks vt_length vt_acts vt_next vt_found vt_seed vt_now R A) ([.ref ht, .int a1, .int a2] : List Value).toArray s 0 0 A) (F0 m 10 ls []) := by
    intro n10
    induction n10 with
    | zero => intro y3_10 H locs ls hP hD hS hl hf; rw [f_X6_copies_10] at hf; cases hf
    | succ n10 ih10 =>
      intro y3_10 H locs ls hP hD hS hl hf
      rw [f_X6_copies_10] at hf
      refine lv_iload_n hx hb dX6_copies_10 rfl (lv_at hl 0 rfl) ?_
      refine lv_bipush (v := -9) hx hb dX6_copies_11 (by decide) ?_
      refine lv_icmp_eq (tgt := 34) hx hb dX6_copies_13 (by decide) (fun c3 => ?_) (fun c3 => ?_)
      · replace hf := dg_t c3 hf
        exact ex10 y3_10 _ _ _ hP hD hS (lv_sub hl [0, 1, 2, 3] rfl) hf
      · replace hf := dg_f c3 hf
        refine lv_iload_n hx hb dX6_copies_16 rfl (lv_at hl 0 rfl) ?_
        refine lv_iload_n hx hb dX6_copies_17 rfl (lv_at hl 3 rfl) ?_
        refine lv_icmp_eq (tgt := 34) hx hb dX6_copies_18 (by decide) (fun c4 => ?_) (fun c4 => ?_)
        · replace hf := dg_t c4 hf
          exact ex10 y3_10 _ _ _ hP hD hS (lv_sub hl [0, 1, 2, 3] rfl) hf
        · replace hf := dg_f c4 hf
          refine lv_aload_n hx hb dX6_copies_21 rfl (lv_at hl 1 rfl) ?_
          refine va_get (D := (dC, dI)) (ci := 5) (v := .ref ht_now) (C := RX6) (T := TX6) (N := 19) hx hb hts hinX6 hown hK hP 0 rfl rfl 3 (by decide) hw0 (fun _ h9 => h9) rfl dX6_copies_22 ?_
          refine lv_bipush (v := 9) hx hb dX6_copies_25 (by decide) ?_
          refine lv_iload_n hx hb dX6_copies_27 rfl (lv_at hl 0 rfl) ?_
          refine lv_iadd hx hb dX6_copies_28 ?_
          obtain ⟨hi5, hf⟩ := dg_ix hf
          refine va_iald hx hb hK hP 1 0 rfl rfl hi5 dX6_copies_29 ?_
          refine lv_istore_n (lv' := [(3, .int (vt_now ((9:Int32) + y3_10).toNatClampNeg)), (0, .ref ht), (1, .int a1), (2, .int a2)]) hx hb dX6_copies_30 rfl hl (by decide) rfl (fun ls hl => ?_)
          refine lv_goto (tgt := 10) hx hb dX6_copies_31 (by decide) ?_
          exact ih10 (vt_now ((9:Int32) + y3_10).toNatClampNeg) _ _ _ hP hD hS (lv_sub hl [0, 1, 2, 3] rfl) hf
  exact lp10 N (vt_now ((9:Int32) + a1).toNatClampNeg) _ _ _ hP hD hS hl hf
theorem hd_X6_copied : yX6_copied.cls = RX6 ∧ yX6_copied.cls ≠ "java/lang/invoke/MethodHandle" ∧ yX6_copied.cls ≠ "java/lang/invoke/VarHandle" ∧ (parseMethodDescriptor yX6_copied.desc).map (fun d => d.parameters.length) = some 1 := by decide +kernel
abbrev rm_X6_copied : Room := { frames := 4, cells := 0, slots := 0, locals := 93 }
abbrev q_X6_copied (dC : Nat → ClassId) (dI : Nat → Nat → Nat) (cI cJ cZ : ClassId) (ht ht_drops ht_tires ht_now ht_told ht_text ht_pages ht_row ht_alike ht_table ht_keys ht_own ht_isKept ht_kept : Nat) (vt_clerks : Int32) (vt_length : Int32) (vt_acts : Int32) (vt_next : Int32) (vt_found : Int32) (vt_seed : Int64) (vt_drops : Nat → Int32) (vt_tires : Nat → Int32) (vt_now : Nat → Int32) (vt_told : Nat → Int32) (R : Int32 × (Nat → Int32)) (A : Nat → Prop) : Array Value → State → Outcome → State → Prop := va_Qi (fun (r : Int32) (u : (Nat → Int32)) => R.1 = r ∧ R.2 = u) (fun (u : (Nat → Int32)) (t : State) => va_P (dC, dI) vwCl [(ht, .inr (5, [.int vt_clerks, .ref ht_drops, .ref ht_tires, .ref ht_now, .ref ht_told, .ref ht_text, .int vt_length, .ref ht_pages, .int vt_acts, .int vt_next, .ref ht_row, .int vt_found, .ref ht_alike, .ref ht_table, .ref ht_keys, .ref ht_own, .long vt_seed, .ref ht_isKept, .ref ht_kept])), (ht_drops, .inl (cI, 4, .inl vt_drops)), (ht_tires, .inl (cI, 4, .inl vt_tires)), (ht_now, .inl (cI, 13, .inl vt_now)), (ht_told, .inl (cI, 4, .inl vt_told)), (ht_pages, .inl (cI, 4, .inl u))] t.heap ∧ va_K (dC, dI) vwCl [(cI, .int), (cJ, .long), (cZ, .boolean)] t ∧ va_D A [(ht, .inr (5, [.int vt_clerks, .ref ht_drops, .ref ht_tires, .ref ht_now, .ref ht_told, .ref ht_text, .int vt_length, .ref ht_pages, .int vt_acts, .int vt_next, .ref ht_row, .int vt_found, .ref ht_alike, .ref ht_table, .ref ht_keys, .ref ht_own, .long vt_seed, .ref ht_isKept, .ref ht_kept])), (ht_drops, .inl (cI, 4, .inl vt_drops)), (ht_tires, .inl (cI, 4, .inl vt_tires)), (ht_now, .inl (cI, 13, .inl vt_now)), (ht_told, .inl (cI, 4, .inl vt_told)), (ht_pages, .inl (cI, 4, .inl u))]) A
set_option maxHeartbeats 4000000 in
set_option maxRecDepth 100000 in
theorem k_X6_copied (l : Launch) (dC : Nat → ClassId) (dI : Nat → Nat → Nat) (cI cJ cZ : ClassId) (sz : Nat) (ht ht_drops ht_tires ht_now ht_told ht_text ht_pages ht_row ht_alike ht_table ht_keys ht_own ht_isKept ht_kept : Nat) (a1 : Int32) (vt_clerks : Int32) (vt_length : Int32) (vt_acts : Int32) (vt_next : Int32) (vt_found : Int32) (vt_seed : Int64) (vt_drops : Nat → Int32) (vt_tires : Nat → Int32) (vt_now : Nat → Int32) (vt_told : Nat → Int32) (vt_pages : Nat → Int32) (N : Nat) (R : Int32 × (Nat → Int32)) (hf : f_X6_copied N a1 vt_clerks vt_drops vt_tires vt_now vt_told vt_pages = some R) : Met l yX6_copied wsX6_copied (rm_X6_copied) (va_Pc [.ref ht, .int a1] (fun U => U.heap.size = sz ∧ va_P (dC, dI) vwCl [(ht, .inr (5, [.int vt_clerks, .ref ht_drops, .ref ht_tires, .ref ht_now, .ref ht_told, .ref ht_text, .int vt_length, .ref ht_pages, .int vt_acts, .int vt_next, .ref ht_row, .int vt_found, .ref ht_alike, .ref ht_table, .ref ht_keys, .ref ht_own, .long vt_seed, .ref ht_isKept, .ref ht_kept])), (ht_drops, .inl (cI, 4, .inl vt_drops)), (ht_tires, .inl (cI, 4, .inl vt_tires)), (ht_now, .inl (cI, 13, .inl vt_now)), (ht_told, .inl (cI, 4, .inl vt_told)), (ht_pages, .inl (cI, 4, .inl vt_pages))] U.heap ∧ va_K (dC, dI) vwCl [(cI, .int), (cJ, .long), (cZ, .boolean)] U ∧ va_D (fun _ => True) [(ht, .inr (5, [.int vt_clerks, .ref ht_drops, .ref ht_tires, .ref ht_now, .ref ht_told, .ref ht_text, .int vt_length, .ref ht_pages, .int vt_acts, .int vt_next, .ref ht_row, .int vt_found, .ref ht_alike, .ref ht_table, .ref ht_keys, .ref ht_own, .long vt_seed, .ref ht_isKept, .ref ht_kept])), (ht_drops, .inl (cI, 4, .inl vt_drops)), (ht_tires, .inl (cI, 4, .inl vt_tires)), (ht_now, .inl (cI, 13, .inl vt_now)), (ht_told, .inl (cI, 4, .inl vt_told)), (ht_pages, .inl (cI, 4, .inl vt_pages))])) (q_X6_copied dC dI cI cJ cZ ht ht_drops ht_tires ht_now ht_told ht_text ht_pages ht_row ht_alike ht_table ht_keys ht_own ht_isKept ht_kept vt_clerks vt_length vt_acts vt_next vt_found vt_seed vt_drops vt_tires vt_now vt_told R (va_A [(ht, .inr (5, [.int vt_clerks, .ref ht_drops, .ref ht_tires, .ref ht_now, .ref ht_told, .ref ht_text, .int vt_length, .ref ht_pages, .int vt_acts, .int vt_next, .ref ht_row, .int vt_found, .ref ht_alike, .ref ht_table, .ref ht_keys, .ref ht_own, .long vt_seed, .ref ht_isKept, .ref ht_kept])), (ht_drops, .inl (cI, 4, .inl vt_drops)), (ht_tires, .inl (cI, 4, .inl vt_tires)), (ht_now, .inl (cI, 13, .inl vt_now)), (ht_told, .inl (cI, 4, .inl vt_told)), (ht_pages, .inl (cI, 4, .inl vt_pages))] sz)) 0 0 (va_A [(ht, .inr (5, [.int vt_clerks, .ref ht_drops, .ref ht_tires, .ref ht_now, .ref ht_told, .ref ht_text, .int vt_length, .ref ht_pages, .int vt_acts, .int vt_next, .ref ht_row, .int vt_found, .ref ht_alike, .ref ht_table, .ref ht_keys, .ref ht_own, .long vt_seed, .ref ht_isKept, .ref ht_kept])), (ht_drops, .inl (cI, 4, .inl vt_drops)), (ht_tires, .inl (cI, 4, .inl vt_tires)), (ht_now, .inl (cI, 13, .inl vt_now)), (ht_told, .inl (cI, 4, .inl vt_told)), (ht_pages, .inl (cI, 4, .inl vt_pages))] sz) := by
  refine Met.ofW (cc := cX6_copied) (maxL := 7) (ret := (some .int)) (by decide) rfl ?_
  intro p e s m args below meth c s₁ B hml hv
  obtain ⟨rfl, hsz, hP, hK, hD0⟩ := hv
  have hx := B.exec
  have hb := B.bytes
  have hr := B.returns
  have hts := atoms_spec (ws := wsX6_copied) B.pre
  have hown : s.vm.findClass RX6 = some m.cls := findClass_of_methodNamed B.named
  have hlocks := B.notSynchronized
  clear B
  subst hsz
  have hw0 := hts (.fieldLink RX6 19 "ShorthandCourtModel" "told" "[I") (by decide +kernel)
  have hw1 := hts (.fieldLink RX6 16 "ShorthandCourtModel" "now" "[I") (by decide +kernel)
  have hw2 := hts (.fieldLink RX6 7 "ShorthandCourtModel" "drops" "[I") (by decide +kernel)
  have hw3 := hts (.fieldLink RX6 13 "ShorthandCourtModel" "tires" "[I") (by decide +kernel)
  have hw4 := hts (.fieldLink RX6 79 "ShorthandCourtModel" "clerks" "I") (by decide +kernel)
  have hw5 := hts (.fieldLink RX6 25 "ShorthandCourtModel" "pages" "[I") (by decide +kernel)
  have hinX6 : ∀ w ∈ u_ws RX6 TX6 19, w ∈ wsX6_copied := by decide +kernel
  have hD := hD0.self (sz := s.heap.size)
  clear hD0
  generalize hAe : va_A [(ht, .inr (5, [.int vt_clerks, .ref ht_drops, .ref ht_tires, .ref ht_now, .ref ht_told, .ref ht_text, .int vt_length, .ref ht_pages, .int vt_acts, .int vt_next, .ref ht_row, .int vt_found, .ref ht_alike, .ref ht_table, .ref ht_keys, .ref ht_own, .long vt_seed, .ref ht_isKept, .ref ht_kept])), (ht_drops, .inl (cI, 4, .inl vt_drops)), (ht_tires, .inl (cI, 4, .inl vt_tires)), (ht_now, .inl (cI, 13, .inl vt_now)), (ht_told, .inl (cI, 4, .inl vt_told)), (ht_pages, .inl (cI, 4, .inl vt_pages))] s.heap.size = A at hD ⊢
  have hA : ∀ q : Nat, s.heap.size ≤ q → A q := fun q h => by rw [← hAe]; exact Or.inr h
  clear hAe
  have hS : va_S A s.heap s.heap [] := va_S.rf
  have hl := lv_entry ([.ref ht, .int a1]) (n := 7) (Nat.le_of_ble_eq_true rfl)
  rw [lg_entry_eq]
  generalize (lg_sl ([.ref ht, .int a1]) ++ List.replicate (7 - (lg_sl ([.ref ht, .int a1])).length) Slot.unset).toArray = ls at hl ⊢
  have hl : lv_has ls 7 [(0, .ref ht), (1, .int a1)] := hl
  unfold f_X6_copied at hf
  refine lv_aload_n hx hb dX6_copied_0 rfl (lv_at hl 0 rfl) ?_
  refine lv_iload_n hx hb dX6_copied_1 rfl (lv_at hl 1 rfl) ?_
  obtain ⟨x1, hx1, hf⟩ := dg_bind hf
  have hPc : va_P (dC, dI) vwCl [(ht, .inr (5, [.int vt_clerks, .ref ht_drops, .ref ht_tires, .ref ht_now, .ref ht_told, .ref ht_text, .int vt_length, .ref ht_pages, .int vt_acts, .int vt_next, .ref ht_row, .int vt_found, .ref ht_alike, .ref ht_table, .ref ht_keys, .ref ht_own, .long vt_seed, .ref ht_isKept, .ref ht_kept]))] s.heap := hP.sub [0] rfl
  have hDc : va_D A [(ht, .inr (5, [.int vt_clerks, .ref ht_drops, .ref ht_tires, .ref ht_now, .ref ht_told, .ref ht_text, .int vt_length, .ref ht_pages, .int vt_acts, .int vt_next, .ref ht_row, .int vt_found, .ref ht_alike, .ref ht_table, .ref ht_keys, .ref ht_own, .long vt_seed, .ref ht_isKept, .ref ht_kept]))] := hD.sub [0] (by decide) rfl
  have hFc := va_free (wc := [(ht, .inr (5, [.int vt_clerks, .ref ht_drops, .ref ht_tires, .ref ht_now, .ref ht_told, .ref ht_text, .int vt_length, .ref ht_pages, .int vt_acts, .int vt_next, .ref ht_row, .int vt_found, .ref ht_alike, .ref ht_table, .ref ht_keys, .ref ht_own, .long vt_seed, .ref ht_isKept, .ref ht_kept]))]) hD hS hA [0] rfl
  refine va_calli (va_runV (As := [.int a1]) (rest := []) ⟨hx, hb, hml, hown, hts⟩ (k_X6_isClerk l dC dI cI cJ cZ s.heap.size ht ht_drops ht_tires ht_now ht_told ht_text ht_pages ht_row ht_alike ht_table ht_keys ht_own ht_isKept ht_kept a1 vt_clerks vt_length vt_acts vt_next vt_found vt_seed N x1 hx1) (cwV 1 hts gX6_copied_X6_isClerk rfl rfl rfl hd_X6_isClerk ⟨Nat.le_of_ble_eq_true rfl, Nat.le_of_ble_eq_true rfl⟩) ⟨blind_pc, va_recv hK hPc (ci := 5) (q0 := 0) rfl rfl, pre_pc hPc hK hDc⟩ rfl rfl hl.1 rfl (lv_room (Nat.le_of_ble_eq_true rfl)) dX6_copied_2 ⟨Nat.zero_le _, Nat.zero_le _⟩) hS (fun q _ h => hFc q h) hFc (fun r u t H1 locs eth hvm hw hB hz1 hk1 hS => ?_)
  obtain ⟨hP1, hK1, hD1⟩ := hB
  rw [eth] at hP1
  subst hw
  obtain ⟨hP, hD⟩ := va_join (wr := [(ht_drops, .inl (cI, 4, .inl vt_drops)), (ht_tires, .inl (cI, 4, .inl vt_tires)), (ht_now, .inl (cI, 13, .inl vt_now)), (ht_told, .inl (cI, 4, .inl vt_told)), (ht_pages, .inl (cI, 4, .inl vt_pages))]) (w1 := [(ht, .inr (5, [.int vt_clerks, .ref ht_drops, .ref ht_tires, .ref ht_now, .ref ht_told, .ref ht_text, .int vt_length, .ref ht_pages, .int vt_acts, .int vt_next, .ref ht_row, .int vt_found, .ref ht_alike, .ref ht_table, .ref ht_keys, .ref ht_own, .long vt_seed, .ref ht_isKept, .ref ht_kept]))]) hP hD [0] [1, 2, 3, 4, 5] rfl rfl (by decide) (by decide) hk1 hFc hP1 hD1
  clear hP1 hK1 hD1 hPc hDc hFc hk1 hz1 hvm eth
  generalize H1 = H at hP hS ⊢
  have hP : va_P (dC, dI) vwCl [(ht_drops, .inl (cI, 4, .inl vt_drops)), (ht_tires, .inl (cI, 4, .inl vt_tires)), (ht_now, .inl (cI, 13, .inl vt_now)), (ht_told, .inl (cI, 4, .inl vt_told)), (ht_pages, .inl (cI, 4, .inl vt_pages)), (ht, .inr (5, [.int vt_clerks, .ref ht_drops, .ref ht_tires, .ref ht_now, .ref ht_told, .ref ht_text, .int vt_length, .ref ht_pages, .int vt_acts, .int vt_next, .ref ht_row, .int vt_found, .ref ht_alike, .ref ht_table, .ref ht_keys, .ref ht_own, .long vt_seed, .ref ht_isKept, .ref ht_kept]))] H := hP
  have hD : va_D A [(ht_drops, .inl (cI, 4, .inl vt_drops)), (ht_tires, .inl (cI, 4, .inl vt_tires)), (ht_now, .inl (cI, 13, .inl vt_now)), (ht_told, .inl (cI, 4, .inl vt_told)), (ht_pages, .inl (cI, 4, .inl vt_pages)), (ht, .inr (5, [.int vt_clerks, .ref ht_drops, .ref ht_tires, .ref ht_now, .ref ht_told, .ref ht_text, .int vt_length, .ref ht_pages, .int vt_acts, .int vt_next, .ref ht_row, .int vt_found, .ref ht_alike, .ref ht_table, .ref ht_keys, .ref ht_own, .long vt_seed, .ref ht_isKept, .ref ht_kept]))] := hD
  refine lv_if_ne (tgt := 10) hx hb dX6_copied_5 (by decide) (fun c2 => ?_) (fun c2 => ?_)
  · replace hf := dg_f c2 hf
    refine lv_aload_n hx hb dX6_copied_10 rfl (lv_at hl 0 rfl) ?_
    refine va_get (D := (dC, dI)) (ci := 5) (v := .ref ht_told) (C := RX6) (T := TX6) (N := 19) hx hb hts hinX6 hown hK hP 5 rfl rfl 4 (by decide) hw0 (fun _ h9 => h9) rfl dX6_copied_11 ?_
    refine lv_iload_n hx hb dX6_copied_14 rfl (lv_at hl 1 rfl) ?_
    obtain ⟨hi3, hf⟩ := dg_ix hf
    refine va_iald hx hb hK hP 3 0 rfl rfl hi3 dX6_copied_15 ?_
    refine lv_bipush (v := -9) hx hb dX6_copied_16 (by decide) ?_
    refine lv_icmp_ne (tgt := 24) hx hb dX6_copied_18 (by decide) (fun c4 => ?_) (fun c4 => ?_)
    · replace hf := dg_f c4 hf
      refine lv_aload_n hx hb dX6_copied_24 rfl (lv_at hl 0 rfl) ?_
      refine lv_aload_n hx hb dX6_copied_25 rfl (lv_at hl 0 rfl) ?_
      refine va_get (D := (dC, dI)) (ci := 5) (v := .ref ht_now) (C := RX6) (T := TX6) (N := 19) hx hb hts hinX6 hown hK hP 5 rfl rfl 3 (by decide) hw1 (fun _ h9 => h9) rfl dX6_copied_26 ?_
      refine lv_iconst (v := 0) hx hb dX6_copied_29 (by decide) ?_
      refine va_iald hx hb hK hP 2 0 rfl rfl (vp_in_iff.mpr (by decide)) dX6_copied_30 ?_
      refine W.eq (g2 := F0 m 31 ls [.int (vt_now 0), .ref ht]) rfl ?_
      refine lv_bipush (v := -9) hx hb dX6_copied_31 (by decide) ?_
      obtain ⟨x5, hx5, hf⟩ := dg_bind hf
      have hPc : va_P (dC, dI) vwCl [(ht, .inr (5, [.int vt_clerks, .ref ht_drops, .ref ht_tires, .ref ht_now, .ref ht_told, .ref ht_text, .int vt_length, .ref ht_pages, .int vt_acts, .int vt_next, .ref ht_row, .int vt_found, .ref ht_alike, .ref ht_table, .ref ht_keys, .ref ht_own, .long vt_seed, .ref ht_isKept, .ref ht_kept])), (ht_drops, .inl (cI, 4, .inl vt_drops)), (ht_tires, .inl (cI, 4, .inl vt_tires)), (ht_now, .inl (cI, 13, .inl vt_now)), (ht_pages, .inl (cI, 4, .inl vt_pages))] H := hP.sub [5, 0, 1, 2, 4] rfl
      have hDc : va_D A [(ht, .inr (5, [.int vt_clerks, .ref ht_drops, .ref ht_tires, .ref ht_now, .ref ht_told, .ref ht_text, .int vt_length, .ref ht_pages, .int vt_acts, .int vt_next, .ref ht_row, .int vt_found, .ref ht_alike, .ref ht_table, .ref ht_keys, .ref ht_own, .long vt_seed, .ref ht_isKept, .ref ht_kept])), (ht_drops, .inl (cI, 4, .inl vt_drops)), (ht_tires, .inl (cI, 4, .inl vt_tires)), (ht_now, .inl (cI, 13, .inl vt_now)), (ht_pages, .inl (cI, 4, .inl vt_pages))] := hD.sub [5, 0, 1, 2, 4] (by decide) rfl
      have hFc := va_free (wc := [(ht, .inr (5, [.int vt_clerks, .ref ht_drops, .ref ht_tires, .ref ht_now, .ref ht_told, .ref ht_text, .int vt_length, .ref ht_pages, .int vt_acts, .int vt_next, .ref ht_row, .int vt_found, .ref ht_alike, .ref ht_table, .ref ht_keys, .ref ht_own, .long vt_seed, .ref ht_isKept, .ref ht_kept])), (ht_drops, .inl (cI, 4, .inl vt_drops)), (ht_tires, .inl (cI, 4, .inl vt_tires)), (ht_now, .inl (cI, 13, .inl vt_now)), (ht_pages, .inl (cI, 4, .inl vt_pages))]) hD hS hA [5, 0, 1, 2, 4] rfl
      refine va_callv (va_runV (As := [.int (vt_now 0), .int (-9:Int32)]) (rest := []) ⟨hx, hb, hml, hown, hts⟩ (k_X6_layPages l dC dI cI cJ cZ H.size ht ht_drops ht_tires ht_now ht_told ht_text ht_pages ht_row ht_alike ht_table ht_keys ht_own ht_isKept ht_kept (vt_now 0) (-9:Int32) vt_clerks vt_length vt_acts vt_next vt_found vt_seed vt_drops vt_tires vt_now vt_pages N x5 hx5) (cwV 2 hts gX6_copied_X6_layPages rfl rfl rfl hd_X6_layPages ⟨Nat.le_of_ble_eq_true rfl, Nat.le_of_ble_eq_true rfl⟩) ⟨blind_pc, va_recv hK hPc (ci := 5) (q0 := 0) rfl rfl, pre_pc hPc hK hDc⟩ rfl rfl hl.1 rfl (lv_room (Nat.le_of_ble_eq_true rfl)) dX6_copied_33 ⟨Nat.zero_le _, Nat.zero_le _⟩) hS (fun q _ h => hFc q h) hFc (fun u t H1 locs eth hvm hw hB hz1 hk1 hS => ?_)
      obtain ⟨hP1, hK1, hD1⟩ := hB
      rw [eth] at hP1
      subst hw
      obtain ⟨hP, hD⟩ := va_join (wr := [(ht_told, .inl (cI, 4, .inl vt_told))]) (w1 := [(ht, .inr (5, [.int vt_clerks, .ref ht_drops, .ref ht_tires, .ref ht_now, .ref ht_told, .ref ht_text, .int vt_length, .ref ht_pages, .int vt_acts, .int vt_next, .ref ht_row, .int vt_found, .ref ht_alike, .ref ht_table, .ref ht_keys, .ref ht_own, .long vt_seed, .ref ht_isKept, .ref ht_kept])), (ht_drops, .inl (cI, 4, .inl vt_drops)), (ht_tires, .inl (cI, 4, .inl vt_tires)), (ht_now, .inl (cI, 13, .inl vt_now)), (ht_pages, .inl (cI, 4, .inl x5))]) hP hD [5, 0, 1, 2, 4] [3] rfl rfl (by decide) (by decide) hk1 hFc hP1 hD1
      clear hP1 hK1 hD1 hPc hDc hFc hk1 hz1 hvm eth
      generalize H1 = H at hP hS ⊢
      have hP : va_P (dC, dI) vwCl [(ht_told, .inl (cI, 4, .inl vt_told)), (ht, .inr (5, [.int vt_clerks, .ref ht_drops, .ref ht_tires, .ref ht_now, .ref ht_told, .ref ht_text, .int vt_length, .ref ht_pages, .int vt_acts, .int vt_next, .ref ht_row, .int vt_found, .ref ht_alike, .ref ht_table, .ref ht_keys, .ref ht_own, .long vt_seed, .ref ht_isKept, .ref ht_kept])), (ht_drops, .inl (cI, 4, .inl vt_drops)), (ht_tires, .inl (cI, 4, .inl vt_tires)), (ht_now, .inl (cI, 13, .inl vt_now)), (ht_pages, .inl (cI, 4, .inl x5))] H := hP
      have hD : va_D A [(ht_told, .inl (cI, 4, .inl vt_told)), (ht, .inr (5, [.int vt_clerks, .ref ht_drops, .ref ht_tires, .ref ht_now, .ref ht_told, .ref ht_text, .int vt_length, .ref ht_pages, .int vt_acts, .int vt_next, .ref ht_row, .int vt_found, .ref ht_alike, .ref ht_table, .ref ht_keys, .ref ht_own, .long vt_seed, .ref ht_isKept, .ref ht_kept])), (ht_drops, .inl (cI, 4, .inl vt_drops)), (ht_tires, .inl (cI, 4, .inl vt_tires)), (ht_now, .inl (cI, 13, .inl vt_now)), (ht_pages, .inl (cI, 4, .inl x5))] := hD
      refine lv_iconst (v := 0) hx hb dX6_copied_36 (by decide) ?_
      refine lv_istore_n (lv' := [(2, .int (0:Int32)), (0, .ref ht), (1, .int a1)]) hx hb dX6_copied_37 rfl hl (by decide) rfl (fun ls hl => ?_)
      refine lv_iconst (v := 0) hx hb dX6_copied_38 (by decide) ?_
      refine lv_istore_n (lv' := [(3, .int (0:Int32)), (2, .int (0:Int32)), (0, .ref ht), (1, .int a1)]) hx hb dX6_copied_39 rfl hl (by decide) rfl (fun ls hl => ?_)
      have ex40 : ∀ (z2_40 : Int32) (z3_40 : Int32) (H : Heap) (locs : List Loc) (ls : Array Slot), va_P (dC, dI) vwCl [(ht_told, .inl (cI, 4, .inl vt_told)), (ht, .inr (5, [.int vt_clerks, .ref ht_drops, .ref ht_tires, .ref ht_now, .ref ht_told, .ref ht_text, .int vt_length, .ref ht_pages, .int vt_acts, .int vt_next, .ref ht_row, .int vt_found, .ref ht_alike, .ref ht_table, .ref ht_keys, .ref ht_own, .long vt_seed, .ref ht_isKept, .ref ht_kept])), (ht_drops, .inl (cI, 4, .inl vt_drops)), (ht_tires, .inl (cI, 4, .inl vt_tires)), (ht_now, .inl (cI, 13, .inl vt_now)), (ht_pages, .inl (cI, 4, .inl x5))] H → va_D A [(ht_told, .inl (cI, 4, .inl vt_told)), (ht, .inr (5, [.int vt_clerks, .ref ht_drops, .ref ht_tires, .ref ht_now, .ref ht_told, .ref ht_text, .int vt_length, .ref ht_pages, .int vt_acts, .int vt_next, .ref ht_row, .int vt_found, .ref ht_alike, .ref ht_table, .ref ht_keys, .ref ht_own, .long vt_seed, .ref ht_isKept, .ref ht_kept])), (ht_drops, .inl (cI, 4, .inl vt_drops)), (ht_tires, .inl (cI, 4, .inl vt_tires)), (ht_now, .inl (cI, 13, .inl vt_now)), (ht_pages, .inl (cI, 4, .inl x5))] → va_S A s.heap H locs → lv_has ls 7 [(3, .int z3_40), (2, .int z2_40), (0, .ref ht), (1, .int a1)] → (some (z2_40, x5)) = some R → W p l e (rm_X6_copied) s m ([.ref ht, .int a1] : List Value).toArray below meth c H locs 0 0 (MQ below (q_X6_copied dC dI cI cJ cZ ht ht_drops ht_tires ht_now ht_told ht_text ht_pages ht_row ht_alike ht_table ht_keys ht_own ht_isKept ht_kept vt_clerks vt_length vt_acts vt_next vt_found vt_seed vt_drops vt_tires vt_now vt_told R A) ([.ref ht, .int a1] : List Value).toArray s 0 0 A) (F0 m 185 ls []) := by
        intro z2_40 z3_40 H locs ls hP hD hS hl hf
        refine lv_iload_n hx hb dX6_copied_185 rfl (lv_at hl 1 rfl) ?_
        have he := Option.some.inj hf
        have hP9 := (hP.sub (ws' := [(ht, .inr (5, [.int vt_clerks, .ref ht_drops, .ref ht_tires, .ref ht_now, .ref ht_told, .ref ht_text, .int vt_length, .ref ht_pages, .int vt_acts, .int vt_next, .ref ht_row, .int vt_found, .ref ht_alike, .ref ht_table, .ref ht_keys, .ref ht_own, .long vt_seed, .ref ht_isKept, .ref ht_kept])), (ht_drops, .inl (cI, 4, .inl vt_drops)), (ht_tires, .inl (cI, 4, .inl vt_tires)), (ht_now, .inl (cI, 13, .inl vt_now)), (ht_told, .inl (cI, 4, .inl vt_told)), (ht_pages, .inl (cI, 4, .inl x5))]) [1, 2, 3, 4, 0, 5] rfl)
        have hD9 := (hD.sub (ws' := [(ht, .inr (5, [.int vt_clerks, .ref ht_drops, .ref ht_tires, .ref ht_now, .ref ht_told, .ref ht_text, .int vt_length, .ref ht_pages, .int vt_acts, .int vt_next, .ref ht_row, .int vt_found, .ref ht_alike, .ref ht_table, .ref ht_keys, .ref ht_own, .long vt_seed, .ref ht_isKept, .ref ht_kept])), (ht_drops, .inl (cI, 4, .inl vt_drops)), (ht_tires, .inl (cI, 4, .inl vt_tires)), (ht_now, .inl (cI, 13, .inl vt_now)), (ht_told, .inl (cI, 4, .inl vt_told)), (ht_pages, .inl (cI, 4, .inl x5))]) [1, 2, 3, 4, 0, 5] (by decide) rfl)
        exact W.iret (v := z2_40) hx hb hr (fun t eth hW => ⟨⟨z2_40, x5, rfl, ⟨(congrArg Prod.fst he).symm, (congrArg Prod.snd he).symm⟩, by rw [eth]; exact hP9, va_K.moved hW.alike hK, hD9⟩, hS.F eth⟩) hS.2.2 dX6_copied_186
      have lp40 : ∀ (n40 : Nat) (y2_40 : Int32) (y3_40 : Int32) (H : Heap) (locs : List Loc) (ls : Array Slot), va_P (dC, dI) vwCl [(ht_told, .inl (cI, 4, .inl vt_told)), (ht, .inr (5, [.int vt_clerks, .ref ht_drops, .ref ht_tires, .ref ht_now, .ref ht_told, .ref ht_text, .int vt_length, .ref ht_pages, .int vt_acts, .int vt_next, .ref ht_row, .int vt_found, .ref ht_alike, .ref ht_table, .ref ht_keys, .ref ht_own, .long vt_seed, .ref ht_isKept, .ref ht_kept])), (ht_drops, .inl (cI, 4, .inl vt_drops)), (ht_tires, .inl (cI, 4, .inl vt_tires)), (ht_now, .inl (cI, 13, .inl vt_now)), (ht_pages, .inl (cI, 4, .inl x5))] H → va_D A [(ht_told, .inl (cI, 4, .inl vt_told)), (ht, .inr (5, [.int vt_clerks, .ref ht_drops, .ref ht_tires, .ref ht_now, .ref ht_told, .ref ht_text, .int vt_length, .ref ht_pages, .int vt_acts, .int vt_next, .ref ht_row, .int vt_found, .ref ht_alike, .ref ht_table, .ref ht_keys, .ref ht_own, .long vt_seed, .ref ht_isKept, .ref ht_kept])), (ht_drops, .inl (cI, 4, .inl vt_drops)), (ht_tires, .inl (cI, 4, .inl vt_tires)), (ht_now, .inl (cI, 13, .inl vt_now)), (ht_pages, .inl (cI, 4, .inl x5))] → va_S A s.heap H locs → lv_has ls 7 [(3, .int y3_40), (2, .int y2_40), (0, .ref ht), (1, .int a1)] → f_X6_copied_40 N a1 vt_clerks vt_drops vt_tires vt_now vt_told x5 (fun z2_40 z3_40 => some (z2_40, x5)) n40 y2_40 y3_40 = some R → W p l e (rm_X6_copied) s m ([.ref ht, .int a1] : List Value).toArray below meth c H locs 0 0 (MQ below (q_X6_copied dC dI cI cJ cZ ht ht_drops ht_tires ht_now ht_told ht_text ht_pages ht_row ht_alike ht_table ht_keys ht_own ht_isKept ht_kept vt_clerks vt_length vt_acts vt_next vt_found vt_seed vt_drops vt_tires vt_now vt_told R A) ([.ref ht, .int a1] : List Value).toArray s 0 0 A) (F0 m 40 ls []) := by
        intro n40
        induction n40 with
        | zero => intro y2_40 y3_40 H locs ls hP hD hS hl hf; rw [f_X6_copied_40] at hf; cases hf
        | succ n40 ih40 =>
          intro y2_40 y3_40 H locs ls hP hD hS hl hf
          rw [f_X6_copied_40] at hf
          refine lv_iload_n hx hb dX6_copied_40 rfl (lv_at hl 0 rfl) ?_
          refine lv_iconst (v := 5) hx hb dX6_copied_41 (by decide) ?_
          refine lv_icmp_ge (tgt := 185) hx hb dX6_copied_42 (by decide) (fun c6 => ?_) (fun c6 => ?_)
          · replace hf := dg_t c6 hf
            exact ex40 y2_40 y3_40 _ _ _ hP hD hS (lv_sub hl [0, 1, 2, 3] rfl) hf
          · replace hf := dg_f c6 hf
            refine lv_iload_n hx hb dX6_copied_45 rfl (lv_at hl 0 rfl) ?_
            refine lv_iconst (v := 4) hx hb dX6_copied_46 (by decide) ?_
            refine lv_icmp_eq (tgt := 72) hx hb dX6_copied_47 (by decide) (fun c7 => ?_) (fun c7 => ?_)
            · replace hf := dg_t c7 hf
              refine lv_iconst (v := 1) hx hb dX6_copied_72 (by decide) ?_
              refine lv_goto (tgt := 77) hx hb dX6_copied_73 (by decide) ?_
              refine lv_istore (lv' := [(4, .int (1:Int32)), (3, .int y3_40), (2, .int y2_40), (0, .ref ht), (1, .int a1)]) hx hb dX6_copied_77 hl (by decide) rfl (fun ls hl => ?_)
              refine lv_iload_n hx hb dX6_copied_79 rfl (lv_at hl 1 rfl) ?_
              refine lv_iconst (v := 4) hx hb dX6_copied_80 (by decide) ?_
              refine lv_icmp_ne (tgt := 93) hx hb dX6_copied_81 (by decide) (fun c8 => absurd c7 c8) (fun c8 => ?_)
              refine lv_aload_n hx hb dX6_copied_84 rfl (lv_at hl 3 rfl) ?_
              refine va_get (D := (dC, dI)) (ci := 5) (v := .ref ht_now) (C := RX6) (T := TX6) (N := 19) hx hb hts hinX6 hown hK hP 1 rfl rfl 3 (by decide) hw1 (fun _ h9 => h9) rfl dX6_copied_85 ?_
              refine lv_iconst (v := 0) hx hb dX6_copied_88 (by decide) ?_
              refine va_iald hx hb hK hP 4 0 rfl rfl (vp_in_iff.mpr (by decide)) dX6_copied_89 ?_
              refine W.eq (g2 := F0 m 90 ls [.int (vt_now 0)]) rfl ?_
              refine lv_goto (tgt := 108) hx hb dX6_copied_90 (by decide) ?_
              refine lv_istore (lv' := [(5, .int (vt_now 0)), (4, .int (1:Int32)), (3, .int y3_40), (2, .int y2_40), (0, .ref ht), (1, .int a1)]) hx hb dX6_copied_108 hl (by decide) rfl (fun ls hl => ?_)
              refine lv_iload hx hb dX6_copied_110 (lv_at hl 1 rfl) ?_
              refine lv_if_eq (tgt := 161) hx hb dX6_copied_112 (by decide) (fun c9 => absurd c9 (by decide)) (fun c9 => ?_)
              refine lv_iload hx hb dX6_copied_115 (lv_at hl 0 rfl) ?_
              refine lv_aload_n hx hb dX6_copied_117 rfl (lv_at hl 4 rfl) ?_
              refine va_get (D := (dC, dI)) (ci := 5) (v := .ref ht_drops) (C := RX6) (T := TX6) (N := 19) hx hb hts hinX6 hown hK hP 1 rfl rfl 1 (by decide) hw2 (fun _ h9 => h9) rfl dX6_copied_118 ?_
              refine lv_iload_n hx hb dX6_copied_121 rfl (lv_at hl 5 rfl) ?_
              obtain ⟨hi10, hf⟩ := dg_ix hf
              refine va_iald hx hb hK hP 2 0 rfl rfl hi10 dX6_copied_122 ?_
              refine lv_aload_n hx hb dX6_copied_123 rfl (lv_at hl 4 rfl) ?_
              refine va_get (D := (dC, dI)) (ci := 5) (v := .ref ht_now) (C := RX6) (T := TX6) (N := 19) hx hb hts hinX6 hown hK hP 1 rfl rfl 3 (by decide) hw1 (fun _ h9 => h9) rfl dX6_copied_124 ?_
              refine lv_iconst (v := 1) hx hb dX6_copied_127 (by decide) ?_
              refine lv_iload_n hx hb dX6_copied_128 rfl (lv_at hl 5 rfl) ?_
              refine lv_iadd hx hb dX6_copied_129 ?_
              obtain ⟨hi11, hf⟩ := dg_ix hf
              refine va_iald hx hb hK hP 4 0 rfl rfl hi11 dX6_copied_130 ?_
              refine lv_aload_n hx hb dX6_copied_131 rfl (lv_at hl 4 rfl) ?_
              refine va_get (D := (dC, dI)) (ci := 5) (v := .ref ht_now) (C := RX6) (T := TX6) (N := 19) hx hb hts hinX6 hown hK hP 1 rfl rfl 3 (by decide) hw1 (fun _ h9 => h9) rfl dX6_copied_132 ?_
              refine lv_iconst (v := 5) hx hb dX6_copied_135 (by decide) ?_
              refine lv_iload_n hx hb dX6_copied_136 rfl (lv_at hl 5 rfl) ?_
              refine lv_iadd hx hb dX6_copied_137 ?_
              obtain ⟨hi12, hf⟩ := dg_ix hf
              refine va_iald hx hb hK hP 4 0 rfl rfl hi12 dX6_copied_138 ?_
              refine lv_aload_n hx hb dX6_copied_139 rfl (lv_at hl 4 rfl) ?_
              refine va_get (D := (dC, dI)) (ci := 5) (v := .ref ht_tires) (C := RX6) (T := TX6) (N := 19) hx hb hts hinX6 hown hK hP 1 rfl rfl 2 (by decide) hw3 (fun _ h9 => h9) rfl dX6_copied_140 ?_
              refine lv_iload_n hx hb dX6_copied_143 rfl (lv_at hl 5 rfl) ?_
              obtain ⟨hi13, hf⟩ := dg_ix hf
              refine va_iald hx hb hK hP 3 0 rfl rfl hi13 dX6_copied_144 ?_
              obtain ⟨x14, hx14, hf⟩ := dg_bind hf
              have hPc : va_P (dC, dI) vwCl [] H := hP.sub [] rfl
              have hDc : va_D A [] := hD.sub [] (by decide) rfl
              have hFc := va_free (wc := []) hD hS hA [] rfl
              refine va_calli (va_runS (As := [.int (vt_now 0), .int (vt_drops a1.toNatClampNeg), .int (vt_now ((1:Int32) + a1).toNatClampNeg), .int (vt_now ((5:Int32) + a1).toNatClampNeg), .int (vt_tires a1.toNatClampNeg)]) (rest := []) ⟨hx, hb, hml, hown, hts⟩ (k_X6_written l dC dI cI cJ cZ H.size (vt_now 0) (vt_drops a1.toNatClampNeg) (vt_now ((1:Int32) + a1).toNatClampNeg) (vt_now ((5:Int32) + a1).toNatClampNeg) (vt_tires a1.toNatClampNeg) N x14 hx14) (va_cwS 5 hts gX6_copied_X6_written rfl rfl rfl hd_X6_written ⟨Nat.le_of_ble_eq_true rfl, Nat.le_of_ble_eq_true rfl⟩) ⟨blind_pc, pre_pc hPc hK hDc⟩ rfl rfl hl.1 rfl (lv_room (Nat.le_of_ble_eq_true rfl)) dX6_copied_145 ⟨Nat.zero_le _, Nat.zero_le _⟩) hS (fun q _ h => hFc q h) hFc (fun r u t H1 locs eth hvm hw hB hz1 hk1 hS => ?_)
              obtain ⟨hP1, hK1, hD1⟩ := hB
              rw [eth] at hP1
              subst hw
              obtain ⟨hP, hD⟩ := va_join (wr := [(ht_told, .inl (cI, 4, .inl vt_told)), (ht, .inr (5, [.int vt_clerks, .ref ht_drops, .ref ht_tires, .ref ht_now, .ref ht_told, .ref ht_text, .int vt_length, .ref ht_pages, .int vt_acts, .int vt_next, .ref ht_row, .int vt_found, .ref ht_alike, .ref ht_table, .ref ht_keys, .ref ht_own, .long vt_seed, .ref ht_isKept, .ref ht_kept])), (ht_drops, .inl (cI, 4, .inl vt_drops)), (ht_tires, .inl (cI, 4, .inl vt_tires)), (ht_now, .inl (cI, 13, .inl vt_now)), (ht_pages, .inl (cI, 4, .inl x5))]) (w1 := []) hP hD [] [0, 1, 2, 3, 4, 5] rfl rfl (by decide) (by decide) hk1 hFc hP1 hD1
              clear hP1 hK1 hD1 hPc hDc hFc hk1 hz1 hvm eth
              generalize H1 = H at hP hS ⊢
              have hP : va_P (dC, dI) vwCl [(ht_told, .inl (cI, 4, .inl vt_told)), (ht, .inr (5, [.int vt_clerks, .ref ht_drops, .ref ht_tires, .ref ht_now, .ref ht_told, .ref ht_text, .int vt_length, .ref ht_pages, .int vt_acts, .int vt_next, .ref ht_row, .int vt_found, .ref ht_alike, .ref ht_table, .ref ht_keys, .ref ht_own, .long vt_seed, .ref ht_isKept, .ref ht_kept])), (ht_drops, .inl (cI, 4, .inl vt_drops)), (ht_tires, .inl (cI, 4, .inl vt_tires)), (ht_now, .inl (cI, 13, .inl vt_now)), (ht_pages, .inl (cI, 4, .inl x5))] H := hP
              have hD : va_D A [(ht_told, .inl (cI, 4, .inl vt_told)), (ht, .inr (5, [.int vt_clerks, .ref ht_drops, .ref ht_tires, .ref ht_now, .ref ht_told, .ref ht_text, .int vt_length, .ref ht_pages, .int vt_acts, .int vt_next, .ref ht_row, .int vt_found, .ref ht_alike, .ref ht_table, .ref ht_keys, .ref ht_own, .long vt_seed, .ref ht_isKept, .ref ht_kept])), (ht_drops, .inl (cI, 4, .inl vt_drops)), (ht_tires, .inl (cI, 4, .inl vt_tires)), (ht_now, .inl (cI, 13, .inl vt_now)), (ht_pages, .inl (cI, 4, .inl x5))] := hD
              refine lv_aload_n hx hb dX6_copied_148 rfl (lv_at hl 4 rfl) ?_
              refine va_get (D := (dC, dI)) (ci := 5) (v := .ref ht_told) (C := RX6) (T := TX6) (N := 19) hx hb hts hinX6 hown hK hP 1 rfl rfl 4 (by decide) hw0 (fun _ h9 => h9) rfl dX6_copied_149 ?_
              refine lv_iload_n hx hb dX6_copied_152 rfl (lv_at hl 5 rfl) ?_
              obtain ⟨hi15, hf⟩ := dg_ix hf
              refine va_iald hx hb hK hP 0 0 rfl rfl hi15 dX6_copied_153 ?_
              refine lv_icmp_ne (tgt := 161) hx hb dX6_copied_154 (by decide) (fun c16 => ?_) (fun c16 => ?_)
              · replace hf := dg_f c16 hf
                refine lv_iconst (v := 0) hx hb dX6_copied_161 (by decide) ?_
                refine lv_istore (lv' := [(6, .int (0:Int32)), (5, .int (vt_now 0)), (4, .int (1:Int32)), (3, .int y3_40), (2, .int y2_40), (0, .ref ht), (1, .int a1)]) hx hb dX6_copied_162 hl (by decide) rfl (fun ls hl => ?_)
                refine lv_iload_n hx hb dX6_copied_164 rfl (lv_at hl 4 rfl) ?_
                refine lv_iload hx hb dX6_copied_165 (lv_at hl 0 rfl) ?_
                refine lv_if_eq (tgt := 176) hx hb dX6_copied_167 (by decide) (fun c17 => ?_) (fun c17 => absurd (by decide) c17)
                refine lv_iconst (v := 0) hx hb dX6_copied_176 (by decide) ?_
                refine lv_ior hx hb dX6_copied_177 ?_
                refine lv_istore_n (lv' := [(2, .int (y2_40 ||| (0:Int32))), (6, .int (0:Int32)), (5, .int (vt_now 0)), (4, .int (1:Int32)), (3, .int y3_40), (0, .ref ht), (1, .int a1)]) hx hb dX6_copied_178 rfl hl (by decide) rfl (fun ls hl => ?_)
                refine lv_iinc (v := (y3_40 + (1:Int32))) (lv' := [(3, .int (y3_40 + (1:Int32))), (2, .int (y2_40 ||| (0:Int32))), (6, .int (0:Int32)), (5, .int (vt_now 0)), (4, .int (1:Int32)), (0, .ref ht), (1, .int a1)]) hx hb dX6_copied_179 hl (k := 4) rfl (by first | rfl | decide) (by decide) rfl (fun ls hl => ?_)
                refine lv_goto (tgt := 40) hx hb dX6_copied_182 (by decide) ?_
                exact ih40 (y2_40 ||| (0:Int32)) (y3_40 + (1:Int32)) _ _ _ hP hD hS (lv_sub hl [0, 1, 5, 6] rfl) hf
              · replace hf := dg_t c16 hf
                refine lv_iconst (v := 1) hx hb dX6_copied_157 (by decide) ?_
                refine lv_goto (tgt := 162) hx hb dX6_copied_158 (by decide) ?_
                refine lv_istore (lv' := [(6, .int (1:Int32)), (5, .int (vt_now 0)), (4, .int (1:Int32)), (3, .int y3_40), (2, .int y2_40), (0, .ref ht), (1, .int a1)]) hx hb dX6_copied_162 hl (by decide) rfl (fun ls hl => ?_)
                refine lv_iload_n hx hb dX6_copied_164 rfl (lv_at hl 4 rfl) ?_
                refine lv_iload hx hb dX6_copied_165 (lv_at hl 0 rfl) ?_
                refine lv_if_eq (tgt := 176) hx hb dX6_copied_167 (by decide) (fun c18 => absurd c18 (by decide)) (fun c18 => ?_)
                refine lv_iconst (v := 1) hx hb dX6_copied_170 (by decide) ?_
                refine lv_iload_n hx hb dX6_copied_171 rfl (lv_at hl 3 rfl) ?_
                refine lv_ishl hx hb dX6_copied_172 ?_
                refine lv_goto (tgt := 177) hx hb dX6_copied_173 (by decide) ?_
                refine lv_ior hx hb dX6_copied_177 ?_
                refine lv_istore_n (lv' := [(2, .int (y2_40 ||| ((1:Int32) <<< (y3_40 &&& 31)))), (6, .int (1:Int32)), (5, .int (vt_now 0)), (4, .int (1:Int32)), (3, .int y3_40), (0, .ref ht), (1, .int a1)]) hx hb dX6_copied_178 rfl hl (by decide) rfl (fun ls hl => ?_)
                refine lv_iinc (v := (y3_40 + (1:Int32))) (lv' := [(3, .int (y3_40 + (1:Int32))), (2, .int (y2_40 ||| ((1:Int32) <<< (y3_40 &&& 31)))), (6, .int (1:Int32)), (5, .int (vt_now 0)), (4, .int (1:Int32)), (0, .ref ht), (1, .int a1)]) hx hb dX6_copied_179 hl (k := 4) rfl (by first | rfl | decide) (by decide) rfl (fun ls hl => ?_)
                refine lv_goto (tgt := 40) hx hb dX6_copied_182 (by decide) ?_
                exact ih40 (y2_40 ||| ((1:Int32) <<< (y3_40 &&& 31))) (y3_40 + (1:Int32)) _ _ _ hP hD hS (lv_sub hl [0, 1, 5, 6] rfl) hf
            · replace hf := dg_f c7 hf
              refine lv_iload_n hx hb dX6_copied_50 rfl (lv_at hl 0 rfl) ?_
              refine lv_aload_n hx hb dX6_copied_51 rfl (lv_at hl 2 rfl) ?_
              refine va_get (D := (dC, dI)) (ci := 5) (v := .int vt_clerks) (C := RX6) (T := TX6) (N := 19) hx hb hts hinX6 hown hK hP 1 rfl rfl 0 (by decide) hw4 (fun _ h9 => h9) rfl dX6_copied_52 ?_
              refine lv_icmp_ge (tgt := 76) hx hb dX6_copied_55 (by decide) (fun c19 => ?_) (fun c19 => ?_)
              · replace hf := dg_t c19 hf
                refine lv_iconst (v := 0) hx hb dX6_copied_76 (by decide) ?_
                refine lv_istore (lv' := [(4, .int (0:Int32)), (3, .int y3_40), (2, .int y2_40), (0, .ref ht), (1, .int a1)]) hx hb dX6_copied_77 hl (by decide) rfl (fun ls hl => ?_)
                refine lv_iload_n hx hb dX6_copied_79 rfl (lv_at hl 1 rfl) ?_
                refine lv_iconst (v := 4) hx hb dX6_copied_80 (by decide) ?_
                refine lv_icmp_ne (tgt := 93) hx hb dX6_copied_81 (by decide) (fun c20 => ?_) (fun c20 => absurd c20 c7)
                refine lv_iload hx hb dX6_copied_93 (lv_at hl 0 rfl) ?_
                refine lv_if_eq (tgt := 107) hx hb dX6_copied_95 (by decide) (fun c21 => ?_) (fun c21 => absurd (by decide) c21)
                refine lv_iconst (v := 0) hx hb dX6_copied_107 (by decide) ?_
                refine lv_istore (lv' := [(5, .int (0:Int32)), (4, .int (0:Int32)), (3, .int y3_40), (2, .int y2_40), (0, .ref ht), (1, .int a1)]) hx hb dX6_copied_108 hl (by decide) rfl (fun ls hl => ?_)
                refine lv_iload hx hb dX6_copied_110 (lv_at hl 1 rfl) ?_
                refine lv_if_eq (tgt := 161) hx hb dX6_copied_112 (by decide) (fun c22 => ?_) (fun c22 => absurd (by decide) c22)
                refine lv_iconst (v := 0) hx hb dX6_copied_161 (by decide) ?_
                refine lv_istore (lv' := [(6, .int (0:Int32)), (5, .int (0:Int32)), (4, .int (0:Int32)), (3, .int y3_40), (2, .int y2_40), (0, .ref ht), (1, .int a1)]) hx hb dX6_copied_162 hl (by decide) rfl (fun ls hl => ?_)
                refine lv_iload_n hx hb dX6_copied_164 rfl (lv_at hl 4 rfl) ?_
                refine lv_iload hx hb dX6_copied_165 (lv_at hl 0 rfl) ?_
                refine lv_if_eq (tgt := 176) hx hb dX6_copied_167 (by decide) (fun c23 => ?_) (fun c23 => absurd (by decide) c23)
                refine lv_iconst (v := 0) hx hb dX6_copied_176 (by decide) ?_
                refine lv_ior hx hb dX6_copied_177 ?_
                refine lv_istore_n (lv' := [(2, .int (y2_40 ||| (0:Int32))), (6, .int (0:Int32)), (5, .int (0:Int32)), (4, .int (0:Int32)), (3, .int y3_40), (0, .ref ht), (1, .int a1)]) hx hb dX6_copied_178 rfl hl (by decide) rfl (fun ls hl => ?_)
                refine lv_iinc (v := (y3_40 + (1:Int32))) (lv' := [(3, .int (y3_40 + (1:Int32))), (2, .int (y2_40 ||| (0:Int32))), (6, .int (0:Int32)), (5, .int (0:Int32)), (4, .int (0:Int32)), (0, .ref ht), (1, .int a1)]) hx hb dX6_copied_179 hl (k := 4) rfl (by first | rfl | decide) (by decide) rfl (fun ls hl => ?_)
                refine lv_goto (tgt := 40) hx hb dX6_copied_182 (by decide) ?_
                exact ih40 (y2_40 ||| (0:Int32)) (y3_40 + (1:Int32)) _ _ _ hP hD hS (lv_sub hl [0, 1, 5, 6] rfl) hf
              · replace hf := dg_f c19 hf
                refine lv_iload_n hx hb dX6_copied_58 rfl (lv_at hl 0 rfl) ?_
                refine lv_iload_n hx hb dX6_copied_59 rfl (lv_at hl 3 rfl) ?_
                refine lv_icmp_eq (tgt := 76) hx hb dX6_copied_60 (by decide) (fun c24 => ?_) (fun c24 => ?_)
                · replace hf := dg_t c24 hf
                  refine lv_iconst (v := 0) hx hb dX6_copied_76 (by decide) ?_
                  refine lv_istore (lv' := [(4, .int (0:Int32)), (3, .int y3_40), (2, .int y2_40), (0, .ref ht), (1, .int a1)]) hx hb dX6_copied_77 hl (by decide) rfl (fun ls hl => ?_)
                  refine lv_iload_n hx hb dX6_copied_79 rfl (lv_at hl 1 rfl) ?_
                  refine lv_iconst (v := 4) hx hb dX6_copied_80 (by decide) ?_
                  refine lv_icmp_ne (tgt := 93) hx hb dX6_copied_81 (by decide) (fun c25 => ?_) (fun c25 => absurd c25 c7)
                  refine lv_iload hx hb dX6_copied_93 (lv_at hl 0 rfl) ?_
                  refine lv_if_eq (tgt := 107) hx hb dX6_copied_95 (by decide) (fun c26 => ?_) (fun c26 => absurd (by decide) c26)
                  refine lv_iconst (v := 0) hx hb dX6_copied_107 (by decide) ?_
                  refine lv_istore (lv' := [(5, .int (0:Int32)), (4, .int (0:Int32)), (3, .int y3_40), (2, .int y2_40), (0, .ref ht), (1, .int a1)]) hx hb dX6_copied_108 hl (by decide) rfl (fun ls hl => ?_)
                  refine lv_iload hx hb dX6_copied_110 (lv_at hl 1 rfl) ?_
                  refine lv_if_eq (tgt := 161) hx hb dX6_copied_112 (by decide) (fun c27 => ?_) (fun c27 => absurd (by decide) c27)
                  refine lv_iconst (v := 0) hx hb dX6_copied_161 (by decide) ?_
                  refine lv_istore (lv' := [(6, .int (0:Int32)), (5, .int (0:Int32)), (4, .int (0:Int32)), (3, .int y3_40), (2, .int y2_40), (0, .ref ht), (1, .int a1)]) hx hb dX6_copied_162 hl (by decide) rfl (fun ls hl => ?_)
                  refine lv_iload_n hx hb dX6_copied_164 rfl (lv_at hl 4 rfl) ?_
                  refine lv_iload hx hb dX6_copied_165 (lv_at hl 0 rfl) ?_
                  refine lv_if_eq (tgt := 176) hx hb dX6_copied_167 (by decide) (fun c28 => ?_) (fun c28 => absurd (by decide) c28)
                  refine lv_iconst (v := 0) hx hb dX6_copied_176 (by decide) ?_
                  refine lv_ior hx hb dX6_copied_177 ?_
                  refine lv_istore_n (lv' := [(2, .int (y2_40 ||| (0:Int32))), (6, .int (0:Int32)), (5, .int (0:Int32)), (4, .int (0:Int32)), (3, .int y3_40), (0, .ref ht), (1, .int a1)]) hx hb dX6_copied_178 rfl hl (by decide) rfl (fun ls hl => ?_)
                  refine lv_iinc (v := (y3_40 + (1:Int32))) (lv' := [(3, .int (y3_40 + (1:Int32))), (2, .int (y2_40 ||| (0:Int32))), (6, .int (0:Int32)), (5, .int (0:Int32)), (4, .int (0:Int32)), (0, .ref ht), (1, .int a1)]) hx hb dX6_copied_179 hl (k := 4) rfl (by first | rfl | decide) (by decide) rfl (fun ls hl => ?_)
                  refine lv_goto (tgt := 40) hx hb dX6_copied_182 (by decide) ?_
                  exact ih40 (y2_40 ||| (0:Int32)) (y3_40 + (1:Int32)) _ _ _ hP hD hS (lv_sub hl [0, 1, 5, 6] rfl) hf
                · replace hf := dg_f c24 hf
                  refine lv_aload_n hx hb dX6_copied_63 rfl (lv_at hl 2 rfl) ?_
                  refine lv_iload_n hx hb dX6_copied_64 rfl (lv_at hl 0 rfl) ?_
                  refine lv_iload_n hx hb dX6_copied_65 rfl (lv_at hl 3 rfl) ?_
                  obtain ⟨x29, hx29, hf⟩ := dg_bind hf
                  have hPc : va_P (dC, dI) vwCl [(ht, .inr (5, [.int vt_clerks, .ref ht_drops, .ref ht_tires, .ref ht_now, .ref ht_told, .ref ht_text, .int vt_length, .ref ht_pages, .int vt_acts, .int vt_next, .ref ht_row, .int vt_found, .ref ht_alike, .ref ht_table, .ref ht_keys, .ref ht_own, .long vt_seed, .ref ht_isKept, .ref ht_kept])), (ht_now, .inl (cI, 13, .inl vt_now))] H := hP.sub [1, 4] rfl
                  have hDc : va_D A [(ht, .inr (5, [.int vt_clerks, .ref ht_drops, .ref ht_tires, .ref ht_now, .ref ht_told, .ref ht_text, .int vt_length, .ref ht_pages, .int vt_acts, .int vt_next, .ref ht_row, .int vt_found, .ref ht_alike, .ref ht_table, .ref ht_keys, .ref ht_own, .long vt_seed, .ref ht_isKept, .ref ht_kept])), (ht_now, .inl (cI, 13, .inl vt_now))] := hD.sub [1, 4] (by decide) rfl
                  have hFc := va_free (wc := [(ht, .inr (5, [.int vt_clerks, .ref ht_drops, .ref ht_tires, .ref ht_now, .ref ht_told, .ref ht_text, .int vt_length, .ref ht_pages, .int vt_acts, .int vt_next, .ref ht_row, .int vt_found, .ref ht_alike, .ref ht_table, .ref ht_keys, .ref ht_own, .long vt_seed, .ref ht_isKept, .ref ht_kept])), (ht_now, .inl (cI, 13, .inl vt_now))]) hD hS hA [1, 4] rfl
                  refine va_calli (va_runV (As := [.int y3_40, .int a1]) (rest := []) ⟨hx, hb, hml, hown, hts⟩ (k_X6_copies l dC dI cI cJ cZ H.size ht ht_drops ht_tires ht_now ht_told ht_text ht_pages ht_row ht_alike ht_table ht_keys ht_own ht_isKept ht_kept y3_40 a1 vt_clerks vt_length vt_acts vt_next vt_found vt_seed vt_now N x29 hx29) (cwV 2 hts gX6_copied_X6_copies rfl rfl rfl hd_X6_copies ⟨Nat.le_of_ble_eq_true rfl, Nat.le_of_ble_eq_true rfl⟩) ⟨blind_pc, va_recv hK hPc (ci := 5) (q0 := 0) rfl rfl, pre_pc hPc hK hDc⟩ rfl rfl hl.1 rfl (lv_room (Nat.le_of_ble_eq_true rfl)) dX6_copied_66 ⟨Nat.zero_le _, Nat.zero_le _⟩) hS (fun q _ h => hFc q h) hFc (fun r u t H1 locs eth hvm hw hB hz1 hk1 hS => ?_)
                  obtain ⟨hP1, hK1, hD1⟩ := hB
                  rw [eth] at hP1
                  subst hw
                  obtain ⟨hP, hD⟩ := va_join (wr := [(ht_told, .inl (cI, 4, .inl vt_told)), (ht_drops, .inl (cI, 4, .inl vt_drops)), (ht_tires, .inl (cI, 4, .inl vt_tires)), (ht_pages, .inl (cI, 4, .inl x5))]) (w1 := [(ht, .inr (5, [.int vt_clerks, .ref ht_drops, .ref ht_tires, .ref ht_now, .ref ht_told, .ref ht_text, .int vt_length, .ref ht_pages, .int vt_acts, .int vt_next, .ref ht_row, .int vt_found, .ref ht_alike, .ref ht_table, .ref ht_keys, .ref ht_own, .long vt_seed, .ref ht_isKept, .ref ht_kept])), (ht_now, .inl (cI, 13, .inl vt_now))]) hP hD [1, 4] [0, 2, 3, 5] rfl rfl (by decide) (by decide) hk1 hFc hP1 hD1
                  clear hP1 hK1 hD1 hPc hDc hFc hk1 hz1 hvm eth
                  generalize H1 = H at hP hS ⊢
                  have hP : va_P (dC, dI) vwCl [(ht_told, .inl (cI, 4, .inl vt_told)), (ht_drops, .inl (cI, 4, .inl vt_drops)), (ht_tires, .inl (cI, 4, .inl vt_tires)), (ht_pages, .inl (cI, 4, .inl x5)), (ht, .inr (5, [.int vt_clerks, .ref ht_drops, .ref ht_tires, .ref ht_now, .ref ht_told, .ref ht_text, .int vt_length, .ref ht_pages, .int vt_acts, .int vt_next, .ref ht_row, .int vt_found, .ref ht_alike, .ref ht_table, .ref ht_keys, .ref ht_own, .long vt_seed, .ref ht_isKept, .ref ht_kept])), (ht_now, .inl (cI, 13, .inl vt_now))] H := hP
                  have hD : va_D A [(ht_told, .inl (cI, 4, .inl vt_told)), (ht_drops, .inl (cI, 4, .inl vt_drops)), (ht_tires, .inl (cI, 4, .inl vt_tires)), (ht_pages, .inl (cI, 4, .inl x5)), (ht, .inr (5, [.int vt_clerks, .ref ht_drops, .ref ht_tires, .ref ht_now, .ref ht_told, .ref ht_text, .int vt_length, .ref ht_pages, .int vt_acts, .int vt_next, .ref ht_row, .int vt_found, .ref ht_alike, .ref ht_table, .ref ht_keys, .ref ht_own, .long vt_seed, .ref ht_isKept, .ref ht_kept])), (ht_now, .inl (cI, 13, .inl vt_now))] := hD
                  refine lv_if_ne (tgt := 76) hx hb dX6_copied_69 (by decide) (fun c30 => ?_) (fun c30 => ?_)
                  · replace hf := dg_f c30 hf
                    refine lv_iconst (v := 0) hx hb dX6_copied_76 (by decide) ?_
                    refine lv_istore (lv' := [(4, .int (0:Int32)), (3, .int y3_40), (2, .int y2_40), (0, .ref ht), (1, .int a1)]) hx hb dX6_copied_77 hl (by decide) rfl (fun ls hl => ?_)
                    refine lv_iload_n hx hb dX6_copied_79 rfl (lv_at hl 1 rfl) ?_
                    refine lv_iconst (v := 4) hx hb dX6_copied_80 (by decide) ?_
                    refine lv_icmp_ne (tgt := 93) hx hb dX6_copied_81 (by decide) (fun c31 => ?_) (fun c31 => absurd c31 c7)
                    refine lv_iload hx hb dX6_copied_93 (lv_at hl 0 rfl) ?_
                    refine lv_if_eq (tgt := 107) hx hb dX6_copied_95 (by decide) (fun c32 => ?_) (fun c32 => absurd (by decide) c32)
                    refine lv_iconst (v := 0) hx hb dX6_copied_107 (by decide) ?_
                    refine lv_istore (lv' := [(5, .int (0:Int32)), (4, .int (0:Int32)), (3, .int y3_40), (2, .int y2_40), (0, .ref ht), (1, .int a1)]) hx hb dX6_copied_108 hl (by decide) rfl (fun ls hl => ?_)
                    refine lv_iload hx hb dX6_copied_110 (lv_at hl 1 rfl) ?_
                    refine lv_if_eq (tgt := 161) hx hb dX6_copied_112 (by decide) (fun c33 => ?_) (fun c33 => absurd (by decide) c33)
                    refine lv_iconst (v := 0) hx hb dX6_copied_161 (by decide) ?_
                    refine lv_istore (lv' := [(6, .int (0:Int32)), (5, .int (0:Int32)), (4, .int (0:Int32)), (3, .int y3_40), (2, .int y2_40), (0, .ref ht), (1, .int a1)]) hx hb dX6_copied_162 hl (by decide) rfl (fun ls hl => ?_)
                    refine lv_iload_n hx hb dX6_copied_164 rfl (lv_at hl 4 rfl) ?_
                    refine lv_iload hx hb dX6_copied_165 (lv_at hl 0 rfl) ?_
                    refine lv_if_eq (tgt := 176) hx hb dX6_copied_167 (by decide) (fun c34 => ?_) (fun c34 => absurd (by decide) c34)
                    refine lv_iconst (v := 0) hx hb dX6_copied_176 (by decide) ?_
                    refine lv_ior hx hb dX6_copied_177 ?_
                    refine lv_istore_n (lv' := [(2, .int (y2_40 ||| (0:Int32))), (6, .int (0:Int32)), (5, .int (0:Int32)), (4, .int (0:Int32)), (3, .int y3_40), (0, .ref ht), (1, .int a1)]) hx hb dX6_copied_178 rfl hl (by decide) rfl (fun ls hl => ?_)
                    refine lv_iinc (v := (y3_40 + (1:Int32))) (lv' := [(3, .int (y3_40 + (1:Int32))), (2, .int (y2_40 ||| (0:Int32))), (6, .int (0:Int32)), (5, .int (0:Int32)), (4, .int (0:Int32)), (0, .ref ht), (1, .int a1)]) hx hb dX6_copied_179 hl (k := 4) rfl (by first | rfl | decide) (by decide) rfl (fun ls hl => ?_)
                    refine lv_goto (tgt := 40) hx hb dX6_copied_182 (by decide) ?_
                    exact ih40 (y2_40 ||| (0:Int32)) (y3_40 + (1:Int32)) _ _ _ (hP.sub (ws' := [(ht_told, .inl (cI, 4, .inl vt_told)), (ht, .inr (5, [.int vt_clerks, .ref ht_drops, .ref ht_tires, .ref ht_now, .ref ht_told, .ref ht_text, .int vt_length, .ref ht_pages, .int vt_acts, .int vt_next, .ref ht_row, .int vt_found, .ref ht_alike, .ref ht_table, .ref ht_keys, .ref ht_own, .long vt_seed, .ref ht_isKept, .ref ht_kept])), (ht_drops, .inl (cI, 4, .inl vt_drops)), (ht_tires, .inl (cI, 4, .inl vt_tires)), (ht_now, .inl (cI, 13, .inl vt_now)), (ht_pages, .inl (cI, 4, .inl x5))]) [0, 4, 1, 2, 5, 3] rfl) (hD.sub (ws' := [(ht_told, .inl (cI, 4, .inl vt_told)), (ht, .inr (5, [.int vt_clerks, .ref ht_drops, .ref ht_tires, .ref ht_now, .ref ht_told, .ref ht_text, .int vt_length, .ref ht_pages, .int vt_acts, .int vt_next, .ref ht_row, .int vt_found, .ref ht_alike, .ref ht_table, .ref ht_keys, .ref ht_own, .long vt_seed, .ref ht_isKept, .ref ht_kept])), (ht_drops, .inl (cI, 4, .inl vt_drops)), (ht_tires, .inl (cI, 4, .inl vt_tires)), (ht_now, .inl (cI, 13, .inl vt_now)), (ht_pages, .inl (cI, 4, .inl x5))]) [0, 4, 1, 2, 5, 3] (by decide) rfl) hS (lv_sub hl [0, 1, 5, 6] rfl) hf
                  · replace hf := dg_t c30 hf
                    refine lv_iconst (v := 1) hx hb dX6_copied_72 (by decide) ?_
                    refine lv_goto (tgt := 77) hx hb dX6_copied_73 (by decide) ?_
                    refine lv_istore (lv' := [(4, .int (1:Int32)), (3, .int y3_40), (2, .int y2_40), (0, .ref ht), (1, .int a1)]) hx hb dX6_copied_77 hl (by decide) rfl (fun ls hl => ?_)
                    refine lv_iload_n hx hb dX6_copied_79 rfl (lv_at hl 1 rfl) ?_
                    refine lv_iconst (v := 4) hx hb dX6_copied_80 (by decide) ?_
                    refine lv_icmp_ne (tgt := 93) hx hb dX6_copied_81 (by decide) (fun c35 => ?_) (fun c35 => absurd c35 c7)
                    refine lv_iload hx hb dX6_copied_93 (lv_at hl 0 rfl) ?_
                    refine lv_if_eq (tgt := 107) hx hb dX6_copied_95 (by decide) (fun c36 => absurd c36 (by decide)) (fun c36 => ?_)
                    refine lv_aload_n hx hb dX6_copied_98 rfl (lv_at hl 3 rfl) ?_
                    refine va_get (D := (dC, dI)) (ci := 5) (v := .ref ht_pages) (C := RX6) (T := TX6) (N := 19) hx hb hts hinX6 hown hK hP 4 rfl rfl 7 (by decide) hw5 (fun _ h9 => h9) rfl dX6_copied_99 ?_
                    refine lv_iload_n hx hb dX6_copied_102 rfl (lv_at hl 1 rfl) ?_
                    obtain ⟨hi37, hf⟩ := dg_ix hf
                    refine va_iald hx hb hK hP 3 0 rfl rfl hi37 dX6_copied_103 ?_
                    refine lv_goto (tgt := 108) hx hb dX6_copied_104 (by decide) ?_
                    refine lv_istore (lv' := [(5, .int (x5 y3_40.toNatClampNeg)), (4, .int (1:Int32)), (3, .int y3_40), (2, .int y2_40), (0, .ref ht), (1, .int a1)]) hx hb dX6_copied_108 hl (by decide) rfl (fun ls hl => ?_)
                    refine lv_iload hx hb dX6_copied_110 (lv_at hl 1 rfl) ?_
                    refine lv_if_eq (tgt := 161) hx hb dX6_copied_112 (by decide) (fun c38 => absurd c38 (by decide)) (fun c38 => ?_)
                    refine lv_iload hx hb dX6_copied_115 (lv_at hl 0 rfl) ?_
                    refine lv_aload_n hx hb dX6_copied_117 rfl (lv_at hl 4 rfl) ?_
                    refine va_get (D := (dC, dI)) (ci := 5) (v := .ref ht_drops) (C := RX6) (T := TX6) (N := 19) hx hb hts hinX6 hown hK hP 4 rfl rfl 1 (by decide) hw2 (fun _ h9 => h9) rfl dX6_copied_118 ?_
                    refine lv_iload_n hx hb dX6_copied_121 rfl (lv_at hl 5 rfl) ?_
                    obtain ⟨hi39, hf⟩ := dg_ix hf
                    refine va_iald hx hb hK hP 1 0 rfl rfl hi39 dX6_copied_122 ?_
                    refine lv_aload_n hx hb dX6_copied_123 rfl (lv_at hl 4 rfl) ?_
                    refine va_get (D := (dC, dI)) (ci := 5) (v := .ref ht_now) (C := RX6) (T := TX6) (N := 19) hx hb hts hinX6 hown hK hP 4 rfl rfl 3 (by decide) hw1 (fun _ h9 => h9) rfl dX6_copied_124 ?_
                    refine lv_iconst (v := 1) hx hb dX6_copied_127 (by decide) ?_
                    refine lv_iload_n hx hb dX6_copied_128 rfl (lv_at hl 5 rfl) ?_
                    refine lv_iadd hx hb dX6_copied_129 ?_
                    obtain ⟨hi40, hf⟩ := dg_ix hf
                    refine va_iald hx hb hK hP 5 0 rfl rfl hi40 dX6_copied_130 ?_
                    refine lv_aload_n hx hb dX6_copied_131 rfl (lv_at hl 4 rfl) ?_
                    refine va_get (D := (dC, dI)) (ci := 5) (v := .ref ht_now) (C := RX6) (T := TX6) (N := 19) hx hb hts hinX6 hown hK hP 4 rfl rfl 3 (by decide) hw1 (fun _ h9 => h9) rfl dX6_copied_132 ?_
                    refine lv_iconst (v := 5) hx hb dX6_copied_135 (by decide) ?_
                    refine lv_iload_n hx hb dX6_copied_136 rfl (lv_at hl 5 rfl) ?_
                    refine lv_iadd hx hb dX6_copied_137 ?_
                    obtain ⟨hi41, hf⟩ := dg_ix hf
                    refine va_iald hx hb hK hP 5 0 rfl rfl hi41 dX6_copied_138 ?_
                    refine lv_aload_n hx hb dX6_copied_139 rfl (lv_at hl 4 rfl) ?_
                    refine va_get (D := (dC, dI)) (ci := 5) (v := .ref ht_tires) (C := RX6) (T := TX6) (N := 19) hx hb hts hinX6 hown hK hP 4 rfl rfl 2 (by decide) hw3 (fun _ h9 => h9) rfl dX6_copied_140 ?_
                    refine lv_iload_n hx hb dX6_copied_143 rfl (lv_at hl 5 rfl) ?_
                    obtain ⟨hi42, hf⟩ := dg_ix hf
                    refine va_iald hx hb hK hP 2 0 rfl rfl hi42 dX6_copied_144 ?_
                    obtain ⟨x43, hx43, hf⟩ := dg_bind hf
                    have hPc : va_P (dC, dI) vwCl [] H := hP.sub [] rfl
                    have hDc : va_D A [] := hD.sub [] (by decide) rfl
                    have hFc := va_free (wc := []) hD hS hA [] rfl
                    refine va_calli (va_runS (As := [.int (x5 y3_40.toNatClampNeg), .int (vt_drops a1.toNatClampNeg), .int (vt_now ((1:Int32) + a1).toNatClampNeg), .int (vt_now ((5:Int32) + a1).toNatClampNeg), .int (vt_tires a1.toNatClampNeg)]) (rest := []) ⟨hx, hb, hml, hown, hts⟩ (k_X6_written l dC dI cI cJ cZ H.size (x5 y3_40.toNatClampNeg) (vt_drops a1.toNatClampNeg) (vt_now ((1:Int32) + a1).toNatClampNeg) (vt_now ((5:Int32) + a1).toNatClampNeg) (vt_tires a1.toNatClampNeg) N x43 hx43) (va_cwS 5 hts gX6_copied_X6_written rfl rfl rfl hd_X6_written ⟨Nat.le_of_ble_eq_true rfl, Nat.le_of_ble_eq_true rfl⟩) ⟨blind_pc, pre_pc hPc hK hDc⟩ rfl rfl hl.1 rfl (lv_room (Nat.le_of_ble_eq_true rfl)) dX6_copied_145 ⟨Nat.zero_le _, Nat.zero_le _⟩) hS (fun q _ h => hFc q h) hFc (fun r u t H1 locs eth hvm hw hB hz1 hk1 hS => ?_)
                    obtain ⟨hP1, hK1, hD1⟩ := hB
                    rw [eth] at hP1
                    subst hw
                    obtain ⟨hP, hD⟩ := va_join (wr := [(ht_told, .inl (cI, 4, .inl vt_told)), (ht_drops, .inl (cI, 4, .inl vt_drops)), (ht_tires, .inl (cI, 4, .inl vt_tires)), (ht_pages, .inl (cI, 4, .inl x5)), (ht, .inr (5, [.int vt_clerks, .ref ht_drops, .ref ht_tires, .ref ht_now, .ref ht_told, .ref ht_text, .int vt_length, .ref ht_pages, .int vt_acts, .int vt_next, .ref ht_row, .int vt_found, .ref ht_alike, .ref ht_table, .ref ht_keys, .ref ht_own, .long vt_seed, .ref ht_isKept, .ref ht_kept])), (ht_now, .inl (cI, 13, .inl vt_now))]) (w1 := []) hP hD [] [0, 1, 2, 3, 4, 5] rfl rfl (by decide) (by decide) hk1 hFc hP1 hD1
                    clear hP1 hK1 hD1 hPc hDc hFc hk1 hz1 hvm eth
                    generalize H1 = H at hP hS ⊢
                    have hP : va_P (dC, dI) vwCl [(ht_told, .inl (cI, 4, .inl vt_told)), (ht_drops, .inl (cI, 4, .inl vt_drops)), (ht_tires, .inl (cI, 4, .inl vt_tires)), (ht_pages, .inl (cI, 4, .inl x5)), (ht, .inr (5, [.int vt_clerks, .ref ht_drops, .ref ht_tires, .ref ht_now, .ref ht_told, .ref ht_text, .int vt_length, .ref ht_pages, .int vt_acts, .int vt_next, .ref ht_row, .int vt_found, .ref ht_alike, .ref ht_table, .ref ht_keys, .ref ht_own, .long vt_seed, .ref ht_isKept, .ref ht_kept])), (ht_now, .inl (cI, 13, .inl vt_now))] H := hP
                    have hD : va_D A [(ht_told, .inl (cI, 4, .inl vt_told)), (ht_drops, .inl (cI, 4, .inl vt_drops)), (ht_tires, .inl (cI, 4, .inl vt_tires)), (ht_pages, .inl (cI, 4, .inl x5)), (ht, .inr (5, [.int vt_clerks, .ref ht_drops, .ref ht_tires, .ref ht_now, .ref ht_told, .ref ht_text, .int vt_length, .ref ht_pages, .int vt_acts, .int vt_next, .ref ht_row, .int vt_found, .ref ht_alike, .ref ht_table, .ref ht_keys, .ref ht_own, .long vt_seed, .ref ht_isKept, .ref ht_kept])), (ht_now, .inl (cI, 13, .inl vt_now))] := hD
                    refine lv_aload_n hx hb dX6_copied_148 rfl (lv_at hl 4 rfl) ?_
                    refine va_get (D := (dC, dI)) (ci := 5) (v := .ref ht_told) (C := RX6) (T := TX6) (N := 19) hx hb hts hinX6 hown hK hP 4 rfl rfl 4 (by decide) hw0 (fun _ h9 => h9) rfl dX6_copied_149 ?_
                    refine lv_iload_n hx hb dX6_copied_152 rfl (lv_at hl 5 rfl) ?_
                    obtain ⟨hi44, hf⟩ := dg_ix hf
                    refine va_iald hx hb hK hP 0 0 rfl rfl hi44 dX6_copied_153 ?_
                    refine lv_icmp_ne (tgt := 161) hx hb dX6_copied_154 (by decide) (fun c45 => ?_) (fun c45 => ?_)
                    · replace hf := dg_f c45 hf
                      refine lv_iconst (v := 0) hx hb dX6_copied_161 (by decide) ?_
                      refine lv_istore (lv' := [(6, .int (0:Int32)), (5, .int (x5 y3_40.toNatClampNeg)), (4, .int (1:Int32)), (3, .int y3_40), (2, .int y2_40), (0, .ref ht), (1, .int a1)]) hx hb dX6_copied_162 hl (by decide) rfl (fun ls hl => ?_)
                      refine lv_iload_n hx hb dX6_copied_164 rfl (lv_at hl 4 rfl) ?_
                      refine lv_iload hx hb dX6_copied_165 (lv_at hl 0 rfl) ?_
                      refine lv_if_eq (tgt := 176) hx hb dX6_copied_167 (by decide) (fun c46 => ?_) (fun c46 => absurd (by decide) c46)
                      refine lv_iconst (v := 0) hx hb dX6_copied_176 (by decide) ?_
                      refine lv_ior hx hb dX6_copied_177 ?_
                      refine lv_istore_n (lv' := [(2, .int (y2_40 ||| (0:Int32))), (6, .int (0:Int32)), (5, .int (x5 y3_40.toNatClampNeg)), (4, .int (1:Int32)), (3, .int y3_40), (0, .ref ht), (1, .int a1)]) hx hb dX6_copied_178 rfl hl (by decide) rfl (fun ls hl => ?_)
                      refine lv_iinc (v := (y3_40 + (1:Int32))) (lv' := [(3, .int (y3_40 + (1:Int32))), (2, .int (y2_40 ||| (0:Int32))), (6, .int (0:Int32)), (5, .int (x5 y3_40.toNatClampNeg)), (4, .int (1:Int32)), (0, .ref ht), (1, .int a1)]) hx hb dX6_copied_179 hl (k := 4) rfl (by first | rfl | decide) (by decide) rfl (fun ls hl => ?_)
                      refine lv_goto (tgt := 40) hx hb dX6_copied_182 (by decide) ?_
                      exact ih40 (y2_40 ||| (0:Int32)) (y3_40 + (1:Int32)) _ _ _ (hP.sub (ws' := [(ht_told, .inl (cI, 4, .inl vt_told)), (ht, .inr (5, [.int vt_clerks, .ref ht_drops, .ref ht_tires, .ref ht_now, .ref ht_told, .ref ht_text, .int vt_length, .ref ht_pages, .int vt_acts, .int vt_next, .ref ht_row, .int vt_found, .ref ht_alike, .ref ht_table, .ref ht_keys, .ref ht_own, .long vt_seed, .ref ht_isKept, .ref ht_kept])), (ht_drops, .inl (cI, 4, .inl vt_drops)), (ht_tires, .inl (cI, 4, .inl vt_tires)), (ht_now, .inl (cI, 13, .inl vt_now)), (ht_pages, .inl (cI, 4, .inl x5))]) [0, 4, 1, 2, 5, 3] rfl) (hD.sub (ws' := [(ht_told, .inl (cI, 4, .inl vt_told)), (ht, .inr (5, [.int vt_clerks, .ref ht_drops, .ref ht_tires, .ref ht_now, .ref ht_told, .ref ht_text, .int vt_length, .ref ht_pages, .int vt_acts, .int vt_next, .ref ht_row, .int vt_found, .ref ht_alike, .ref ht_table, .ref ht_keys, .ref ht_own, .long vt_seed, .ref ht_isKept, .ref ht_kept])), (ht_drops, .inl (cI, 4, .inl vt_drops)), (ht_tires, .inl (cI, 4, .inl vt_tires)), (ht_now, .inl (cI, 13, .inl vt_now)), (ht_pages, .inl (cI, 4, .inl x5))]) [0, 4, 1, 2, 5, 3] (by decide) rfl) hS (lv_sub hl [0, 1, 5, 6] rfl) hf
                    · replace hf := dg_t c45 hf
                      refine lv_iconst (v := 1) hx hb dX6_copied_157 (by decide) ?_
                      refine lv_goto (tgt := 162) hx hb dX6_copied_158 (by decide) ?_
                      refine lv_istore (lv' := [(6, .int (1:Int32)), (5, .int (x5 y3_40.toNatClampNeg)), (4, .int (1:Int32)), (3, .int y3_40), (2, .int y2_40), (0, .ref ht), (1, .int a1)]) hx hb dX6_copied_162 hl (by decide) rfl (fun ls hl => ?_)
                      refine lv_iload_n hx hb dX6_copied_164 rfl (lv_at hl 4 rfl) ?_
                      refine lv_iload hx hb dX6_copied_165 (lv_at hl 0 rfl) ?_
                      refine lv_if_eq (tgt := 176) hx hb dX6_copied_167 (by decide) (fun c47 => absurd c47 (by decide)) (fun c47 => ?_)
                      refine lv_iconst (v := 1) hx hb dX6_copied_170 (by decide) ?_
                      refine lv_iload_n hx hb dX6_copied_171 rfl (lv_at hl 3 rfl) ?_
                      refine lv_ishl hx hb dX6_copied_172 ?_
                      refine lv_goto (tgt := 177) hx hb dX6_copied_173 (by decide) ?_
                      refine lv_ior hx hb dX6_copied_177 ?_
                      refine lv_istore_n (lv' := [(2, .int (y2_40 ||| ((1:Int32) <<< (y3_40 &&& 31)))), (6, .int (1:Int32)), (5, .int (x5 y3_40.toNatClampNeg)), (4, .int (1:Int32)), (3, .int y3_40), (0, .ref ht), (1, .int a1)]) hx hb dX6_copied_178 rfl hl (by decide) rfl (fun ls hl => ?_)
                      refine lv_iinc (v := (y3_40 + (1:Int32))) (lv' := [(3, .int (y3_40 + (1:Int32))), (2, .int (y2_40 ||| ((1:Int32) <<< (y3_40 &&& 31)))), (6, .int (1:Int32)), (5, .int (x5 y3_40.toNatClampNeg)), (4, .int (1:Int32)), (0, .ref ht), (1, .int a1)]) hx hb dX6_copied_179 hl (k := 4) rfl (by first | rfl | decide) (by decide) rfl (fun ls hl => ?_)
                      refine lv_goto (tgt := 40) hx hb dX6_copied_182 (by decide) ?_
                      exact ih40 (y2_40 ||| ((1:Int32) <<< (y3_40 &&& 31))) (y3_40 + (1:Int32)) _ _ _ (hP.sub (ws' := [(ht_told, .inl (cI, 4, .inl vt_told)), (ht, .inr (5, [.int vt_clerks, .ref ht_drops, .ref ht_tires, .ref ht_now, .ref ht_told, .ref ht_text, .int vt_length, .ref ht_pages, .int vt_acts, .int vt_next, .ref ht_row, .int vt_found, .ref ht_alike, .ref ht_table, .ref ht_keys, .ref ht_own, .long vt_seed, .ref ht_isKept, .ref ht_kept])), (ht_drops, .inl (cI, 4, .inl vt_drops)), (ht_tires, .inl (cI, 4, .inl vt_tires)), (ht_now, .inl (cI, 13, .inl vt_now)), (ht_pages, .inl (cI, 4, .inl x5))]) [0, 4, 1, 2, 5, 3] rfl) (hD.sub (ws' := [(ht_told, .inl (cI, 4, .inl vt_told)), (ht, .inr (5, [.int vt_clerks, .ref ht_drops, .ref ht_tires, .ref ht_now, .ref ht_told, .ref ht_text, .int vt_length, .ref ht_pages, .int vt_acts, .int vt_next, .ref ht_row, .int vt_found, .ref ht_alike, .ref ht_table, .ref ht_keys, .ref ht_own, .long vt_seed, .ref ht_isKept, .ref ht_kept])), (ht_drops, .inl (cI, 4, .inl vt_drops)), (ht_tires, .inl (cI, 4, .inl vt_tires)), (ht_now, .inl (cI, 13, .inl vt_now)), (ht_pages, .inl (cI, 4, .inl x5))]) [0, 4, 1, 2, 5, 3] (by decide) rfl) hS (lv_sub hl [0, 1, 5, 6] rfl) hf
      exact lp40 N (0:Int32) (0:Int32) _ _ _ hP hD hS hl hf
    · replace hf := dg_t c4 hf
      refine lv_bipush (v := -3) hx hb dX6_copied_21 (by decide) ?_
      have he := Option.some.inj hf
      have hP9 := (hP.sub (ws' := [(ht, .inr (5, [.int vt_clerks, .ref ht_drops, .ref ht_tires, .ref ht_now, .ref ht_told, .ref ht_text, .int vt_length, .ref ht_pages, .int vt_acts, .int vt_next, .ref ht_row, .int vt_found, .ref ht_alike, .ref ht_table, .ref ht_keys, .ref ht_own, .long vt_seed, .ref ht_isKept, .ref ht_kept])), (ht_drops, .inl (cI, 4, .inl vt_drops)), (ht_tires, .inl (cI, 4, .inl vt_tires)), (ht_now, .inl (cI, 13, .inl vt_now)), (ht_told, .inl (cI, 4, .inl vt_told)), (ht_pages, .inl (cI, 4, .inl vt_pages))]) [5, 0, 1, 2, 3, 4] rfl)
      have hD9 := (hD.sub (ws' := [(ht, .inr (5, [.int vt_clerks, .ref ht_drops, .ref ht_tires, .ref ht_now, .ref ht_told, .ref ht_text, .int vt_length, .ref ht_pages, .int vt_acts, .int vt_next, .ref ht_row, .int vt_found, .ref ht_alike, .ref ht_table, .ref ht_keys, .ref ht_own, .long vt_seed, .ref ht_isKept, .ref ht_kept])), (ht_drops, .inl (cI, 4, .inl vt_drops)), (ht_tires, .inl (cI, 4, .inl vt_tires)), (ht_now, .inl (cI, 13, .inl vt_now)), (ht_told, .inl (cI, 4, .inl vt_told)), (ht_pages, .inl (cI, 4, .inl vt_pages))]) [5, 0, 1, 2, 3, 4] (by decide) rfl)
      exact W.iret (v := (-3:Int32)) hx hb hr (fun t eth hW => ⟨⟨(-3:Int32), vt_pages, rfl, ⟨(congrArg Prod.fst he).symm, (congrArg Prod.snd he).symm⟩, by rw [eth]; exact hP9, va_K.moved hW.alike hK, hD9⟩, hS.F eth⟩) hS.2.2 dX6_copied_23
  · replace hf := dg_t c2 hf
    refine lv_iconst (v := -1) hx hb dX6_copied_8 (by decide) ?_
    have he := Option.some.inj hf
    have hP9 := (hP.sub (ws' := [(ht, .inr (5, [.int vt_clerks, .ref ht_drops, .ref ht_tires, .ref ht_now, .ref ht_told, .ref ht_text, .int vt_length, .ref ht_pages, .int vt_acts, .int vt_next, .ref ht_row, .int vt_found, .ref ht_alike, .ref ht_table, .ref ht_keys, .ref ht_own, .long vt_seed, .ref ht_isKept, .ref ht_kept])), (ht_drops, .inl (cI, 4, .inl vt_drops)), (ht_tires, .inl (cI, 4, .inl vt_tires)), (ht_now, .inl (cI, 13, .inl vt_now)), (ht_told, .inl (cI, 4, .inl vt_told)), (ht_pages, .inl (cI, 4, .inl vt_pages))]) [5, 0, 1, 2, 3, 4] rfl)
    have hD9 := (hD.sub (ws' := [(ht, .inr (5, [.int vt_clerks, .ref ht_drops, .ref ht_tires, .ref ht_now, .ref ht_told, .ref ht_text, .int vt_length, .ref ht_pages, .int vt_acts, .int vt_next, .ref ht_row, .int vt_found, .ref ht_alike, .ref ht_table, .ref ht_keys, .ref ht_own, .long vt_seed, .ref ht_isKept, .ref ht_kept])), (ht_drops, .inl (cI, 4, .inl vt_drops)), (ht_tires, .inl (cI, 4, .inl vt_tires)), (ht_now, .inl (cI, 13, .inl vt_now)), (ht_told, .inl (cI, 4, .inl vt_told)), (ht_pages, .inl (cI, 4, .inl vt_pages))]) [5, 0, 1, 2, 3, 4] (by decide) rfl)
    exact W.iret (v := (-1:Int32)) hx hb hr (fun t eth hW => ⟨⟨(-1:Int32), vt_pages, rfl, ⟨(congrArg Prod.fst he).symm, (congrArg Prod.snd he).symm⟩, by rw [eth]; exact hP9, va_K.moved hW.alike hK, hD9⟩, hS.F eth⟩) hS.2.2 dX6_copied_9
theorem hd_X6_withLeaf : yX6_withLeaf.cls ≠ "java/lang/invoke/MethodHandle" ∧ yX6_withLeaf.cls ≠ "java/lang/invoke/VarHandle" ∧ (parseMethodDescriptor yX6_withLeaf.desc).map (fun d => d.parameters.length) = some 3 := by decide +kernel
abbrev rm_X6_withLeaf : Room := { frames := 2, cells := 0, slots := 0, locals := 41 }
abbrev q_X6_withLeaf (dC : Nat → ClassId) (dI : Nat → Nat → Nat) (cI cJ cZ : ClassId) (R : Int32) (A : Nat → Prop) : Array Value → State → Outcome → State → Prop := va_Qi (fun (r : Int32) (_ : Unit) => R = r) (fun (u : Unit) (t : State) => va_P (dC, dI) vwCl [] t.heap ∧ va_K (dC, dI) vwCl [(cI, .int), (cJ, .long), (cZ, .boolean)] t ∧ va_D A []) A
set_option maxHeartbeats 4000000 in
set_option maxRecDepth 100000 in
theorem k_X6_withLeaf (l : Launch) (dC : Nat → ClassId) (dI : Nat → Nat → Nat) (cI cJ cZ : ClassId) (sz : Nat) (a0 : Int32) (a1 : Int32) (a2 : Int32) (N : Nat) (R : Int32) (hf : f_X6_withLeaf N a0 a1 a2 = some R) : Met l yX6_withLeaf wsX6_withLeaf (rm_X6_withLeaf) (va_Pc [.int a0, .int a1, .int a2] (fun U => U.heap.size = sz ∧ va_P (dC, dI) vwCl [] U.heap ∧ va_K (dC, dI) vwCl [(cI, .int), (cJ, .long), (cZ, .boolean)] U ∧ va_D (fun _ => True) [])) (q_X6_withLeaf dC dI cI cJ cZ  R (va_A [] sz)) 0 0 (va_A [] sz) := by
  refine Met.ofW (cc := cX6_withLeaf) (maxL := 4) (ret := (some .int)) (by decide) rfl ?_
  intro p e s m args below meth c s₁ B hml hv
  obtain ⟨rfl, hsz, hP, hK, hD0⟩ := hv
  have hx := B.exec
  have hb := B.bytes
  have hr := B.returns
  have hts := atoms_spec (ws := wsX6_withLeaf) B.pre
  have hown : s.vm.findClass RX6 = some m.cls := findClass_of_methodNamed B.named
  have hlocks := B.notSynchronized
  clear B
  subst hsz
  have hD := hD0.self (sz := s.heap.size)
  clear hD0
  generalize hAe : va_A [] s.heap.size = A at hD ⊢
  have hA : ∀ q : Nat, s.heap.size ≤ q → A q := fun q h => by rw [← hAe]; exact Or.inr h
  clear hAe
  have hS : va_S A s.heap s.heap [] := va_S.rf
  have hl := lv_entry ([.int a0, .int a1, .int a2]) (n := 4) (Nat.le_of_ble_eq_true rfl)
  rw [lg_entry_eq]
  generalize (lg_sl ([.int a0, .int a1, .int a2]) ++ List.replicate (4 - (lg_sl ([.int a0, .int a1, .int a2])).length) Slot.unset).toArray = ls at hl ⊢
  have hl : lv_has ls 4 [(0, .int a0), (1, .int a1), (2, .int a2)] := hl
  unfold f_X6_withLeaf at hf
  refine lv_iload_n hx hb dX6_withLeaf_0 rfl (lv_at hl 0 rfl) ?_
  refine lv_iload_n hx hb dX6_withLeaf_1 rfl (lv_at hl 1 rfl) ?_
  refine lv_iconst (v := 2) hx hb dX6_withLeaf_2 (by decide) ?_
  refine lv_iload_n hx hb dX6_withLeaf_3 rfl (lv_at hl 2 rfl) ?_
  refine lv_imul hx hb dX6_withLeaf_4 ?_
  obtain ⟨x1, hx1, hf⟩ := dg_bind hf
  have hPc : va_P (dC, dI) vwCl [] s.heap := hP.sub [] rfl
  have hDc : va_D A [] := hD.sub [] (by decide) rfl
  have hFc := va_free (wc := []) hD hS hA [] rfl
  refine va_calli (va_runS (As := [.int a1, .int ((2:Int32) * a2)]) (rest := [.int a0]) ⟨hx, hb, hml, hown, hts⟩ (k_X6_wordAt l dC dI cI cJ cZ s.heap.size a1 ((2:Int32) * a2) N x1 hx1) (va_cwS 2 hts gX6_withLeaf_X6_wordAt rfl rfl rfl hd_X6_wordAt ⟨Nat.le_of_ble_eq_true rfl, Nat.le_of_ble_eq_true rfl⟩) ⟨blind_pc, pre_pc hPc hK hDc⟩ rfl rfl hl.1 rfl (lv_room (Nat.le_of_ble_eq_true rfl)) dX6_withLeaf_5 ⟨Nat.zero_le _, Nat.zero_le _⟩) hS (fun q _ h => hFc q h) hFc (fun r u t H1 locs eth hvm hw hB hz1 hk1 hS => ?_)
  obtain ⟨hP1, hK1, hD1⟩ := hB
  rw [eth] at hP1
  subst hw
  obtain ⟨hP, hD⟩ := va_join (wr := []) (w1 := []) hP hD [] [] rfl rfl (by decide) (by decide) hk1 hFc hP1 hD1
  clear hP1 hK1 hD1 hPc hDc hFc hk1 hz1 hvm eth
  generalize H1 = H at hP hS ⊢
  have hP : va_P (dC, dI) vwCl [] H := hP
  have hD : va_D A [] := hD
  obtain ⟨x2, hx2, hf⟩ := dg_bind hf
  have hPc : va_P (dC, dI) vwCl [] H := hP.sub [] rfl
  have hDc : va_D A [] := hD.sub [] (by decide) rfl
  have hFc := va_free (wc := []) hD hS hA [] rfl
  refine va_calli (va_runS (As := [.int a0, .int x1]) (rest := []) ⟨hx, hb, hml, hown, hts⟩ (k_X6_withWord l dC dI cI cJ cZ H.size a0 x1 N x2 hx2) (va_cwS 2 hts gX6_withLeaf_X6_withWord rfl rfl rfl hd_X6_withWord ⟨Nat.le_of_ble_eq_true rfl, Nat.le_of_ble_eq_true rfl⟩) ⟨blind_pc, pre_pc hPc hK hDc⟩ rfl rfl hl.1 rfl (lv_room (Nat.le_of_ble_eq_true rfl)) dX6_withLeaf_8 ⟨Nat.zero_le _, Nat.zero_le _⟩) hS (fun q _ h => hFc q h) hFc (fun r u t H1 locs eth hvm hw hB hz1 hk1 hS => ?_)
  obtain ⟨hP1, hK1, hD1⟩ := hB
  rw [eth] at hP1
  subst hw
  obtain ⟨hP, hD⟩ := va_join (wr := []) (w1 := []) hP hD [] [] rfl rfl (by decide) (by decide) hk1 hFc hP1 hD1
  clear hP1 hK1 hD1 hPc hDc hFc hk1 hz1 hvm eth
  generalize H1 = H at hP hS ⊢
  have hP : va_P (dC, dI) vwCl [] H := hP
  have hD : va_D A [] := hD
  refine lv_istore_n (lv' := [(3, .int x2), (0, .int a0), (1, .int a1), (2, .int a2)]) hx hb dX6_withLeaf_11 rfl hl (by decide) rfl (fun ls hl => ?_)
  refine lv_iconst (v := 2) hx hb dX6_withLeaf_12 (by decide) ?_
  refine lv_iload_n hx hb dX6_withLeaf_13 rfl (lv_at hl 3 rfl) ?_
  refine lv_imul hx hb dX6_withLeaf_14 ?_
  refine lv_iconst (v := 1) hx hb dX6_withLeaf_15 (by decide) ?_
  refine lv_iadd hx hb dX6_withLeaf_16 ?_
  refine lv_iload_n hx hb dX6_withLeaf_17 rfl (lv_at hl 2 rfl) ?_
  obtain ⟨x3, hx3, hf⟩ := dg_bind hf
  have hPc : va_P (dC, dI) vwCl [] H := hP.sub [] rfl
  have hDc : va_D A [] := hD.sub [] (by decide) rfl
  have hFc := va_free (wc := []) hD hS hA [] rfl
  refine va_calli (va_runS (As := [.int a1]) (rest := [.int (((2:Int32) * a2) + (1:Int32))]) ⟨hx, hb, hml, hown, hts⟩ (k_X6_wordsOf l dC dI cI cJ cZ H.size a1 N x3 hx3) (va_cwS 1 hts gX6_withLeaf_X6_wordsOf rfl rfl rfl hd_X6_wordsOf ⟨Nat.le_of_ble_eq_true rfl, Nat.le_of_ble_eq_true rfl⟩) ⟨blind_pc, pre_pc hPc hK hDc⟩ rfl rfl hl.1 rfl (lv_room (Nat.le_of_ble_eq_true rfl)) dX6_withLeaf_18 ⟨Nat.zero_le _, Nat.zero_le _⟩) hS (fun q _ h => hFc q h) hFc (fun r u t H1 locs eth hvm hw hB hz1 hk1 hS => ?_)
  obtain ⟨hP1, hK1, hD1⟩ := hB
  rw [eth] at hP1
  subst hw
  obtain ⟨hP, hD⟩ := va_join (wr := []) (w1 := []) hP hD [] [] rfl rfl (by decide) (by decide) hk1 hFc hP1 hD1
  clear hP1 hK1 hD1 hPc hDc hFc hk1 hz1 hvm eth
  generalize H1 = H at hP hS ⊢
  have hP : va_P (dC, dI) vwCl [] H := hP
  have hD : va_D A [] := hD
  refine lv_icmp_ge (tgt := 40) hx hb dX6_withLeaf_21 (by decide) (fun c4 => ?_) (fun c4 => ?_)
  · replace hf := dg_t c4 hf
    refine lv_iload_n hx hb dX6_withLeaf_40 rfl (lv_at hl 0 rfl) ?_
    have he := Option.some.inj hf
    have hP9 := hP
    have hD9 := hD
    exact W.iret (v := x2) hx hb hr (fun t eth hW => ⟨⟨x2, (), rfl, he.symm, by rw [eth]; exact hP9, va_K.moved hW.alike hK, hD9⟩, hS.F eth⟩) hS.2.2 dX6_withLeaf_41
  · replace hf := dg_f c4 hf
    refine lv_iload_n hx hb dX6_withLeaf_24 rfl (lv_at hl 0 rfl) ?_
    refine lv_iload_n hx hb dX6_withLeaf_25 rfl (lv_at hl 2 rfl) ?_
    refine lv_iconst (v := 2) hx hb dX6_withLeaf_26 (by decide) ?_
    refine lv_iload_n hx hb dX6_withLeaf_27 rfl (lv_at hl 3 rfl) ?_
    refine lv_imul hx hb dX6_withLeaf_28 ?_
    refine lv_iconst (v := 1) hx hb dX6_withLeaf_29 (by decide) ?_
    refine lv_iadd hx hb dX6_withLeaf_30 ?_
    obtain ⟨x5, hx5, hf⟩ := dg_bind hf
    have hPc : va_P (dC, dI) vwCl [] H := hP.sub [] rfl
    have hDc : va_D A [] := hD.sub [] (by decide) rfl
    have hFc := va_free (wc := []) hD hS hA [] rfl
    refine va_calli (va_runS (As := [.int a1, .int (((2:Int32) * a2) + (1:Int32))]) (rest := [.int x2]) ⟨hx, hb, hml, hown, hts⟩ (k_X6_wordAt l dC dI cI cJ cZ H.size a1 (((2:Int32) * a2) + (1:Int32)) N x5 hx5) (va_cwS 2 hts gX6_withLeaf_X6_wordAt rfl rfl rfl hd_X6_wordAt ⟨Nat.le_of_ble_eq_true rfl, Nat.le_of_ble_eq_true rfl⟩) ⟨blind_pc, pre_pc hPc hK hDc⟩ rfl rfl hl.1 rfl (lv_room (Nat.le_of_ble_eq_true rfl)) dX6_withLeaf_31 ⟨Nat.zero_le _, Nat.zero_le _⟩) hS (fun q _ h => hFc q h) hFc (fun r u t H1 locs eth hvm hw hB hz1 hk1 hS => ?_)
    obtain ⟨hP1, hK1, hD1⟩ := hB
    rw [eth] at hP1
    subst hw
    obtain ⟨hP, hD⟩ := va_join (wr := []) (w1 := []) hP hD [] [] rfl rfl (by decide) (by decide) hk1 hFc hP1 hD1
    clear hP1 hK1 hD1 hPc hDc hFc hk1 hz1 hvm eth
    generalize H1 = H at hP hS ⊢
    have hP : va_P (dC, dI) vwCl [] H := hP
    have hD : va_D A [] := hD
    obtain ⟨x6, hx6, hf⟩ := dg_bind hf
    have hPc : va_P (dC, dI) vwCl [] H := hP.sub [] rfl
    have hDc : va_D A [] := hD.sub [] (by decide) rfl
    have hFc := va_free (wc := []) hD hS hA [] rfl
    refine va_calli (va_runS (As := [.int x2, .int x5]) (rest := []) ⟨hx, hb, hml, hown, hts⟩ (k_X6_withWord l dC dI cI cJ cZ H.size x2 x5 N x6 hx6) (va_cwS 2 hts gX6_withLeaf_X6_withWord rfl rfl rfl hd_X6_withWord ⟨Nat.le_of_ble_eq_true rfl, Nat.le_of_ble_eq_true rfl⟩) ⟨blind_pc, pre_pc hPc hK hDc⟩ rfl rfl hl.1 rfl (lv_room (Nat.le_of_ble_eq_true rfl)) dX6_withLeaf_34 ⟨Nat.zero_le _, Nat.zero_le _⟩) hS (fun q _ h => hFc q h) hFc (fun r u t H1 locs eth hvm hw hB hz1 hk1 hS => ?_)
    obtain ⟨hP1, hK1, hD1⟩ := hB
    rw [eth] at hP1
    subst hw
    obtain ⟨hP, hD⟩ := va_join (wr := []) (w1 := []) hP hD [] [] rfl rfl (by decide) (by decide) hk1 hFc hP1 hD1
    clear hP1 hK1 hD1 hPc hDc hFc hk1 hz1 hvm eth
    generalize H1 = H at hP hS ⊢
    have hP : va_P (dC, dI) vwCl [] H := hP
    have hD : va_D A [] := hD
    refine lv_goto (tgt := 41) hx hb dX6_withLeaf_37 (by decide) ?_
    have he := Option.some.inj hf
    have hP9 := hP
    have hD9 := hD
    exact W.iret (v := x6) hx hb hr (fun t eth hW => ⟨⟨x6, (), rfl, he.symm, by rw [eth]; exact hP9, va_K.moved hW.alike hK, hD9⟩, hS.F eth⟩) hS.2.2 dX6_withLeaf_41
