theorem hd_X6_fault : yX6_fault.cls = RX6 ∧ yX6_fault.cls ≠ "java/lang/invoke/MethodHandle" ∧ yX6_fault.cls ≠ "java/lang/invoke/VarHandle" ∧ (parseMethodDescriptor yX6_fault.desc).map (fun d => d.parameters.length) = some 0 := by decide +kernel
abbrev rm_X6_fault : Room := { frames := 3, cells := 0, slots := 0, locals := 67 }
abbrev q_X6_fault (dC : Nat → ClassId) (dI : Nat → Nat → Nat) (cI cJ cZ : ClassId) (ht ht_drops ht_tires ht_now ht_told ht_text ht_pages ht_row ht_alike ht_table ht_keys ht_own ht_isKept ht_kept : Nat) (vt_clerks : Int32) (vt_length : Int32) (vt_acts : Int32) (vt_next : Int32) (vt_found : Int32) (vt_seed : Int64) (vt_text : Nat → Int32) (R : Int32) (A : Nat → Prop) : Array Value → State → Outcome → State → Prop := va_Qi (fun (r : Int32) (_ : Unit) => R = r) (fun (u : Unit) (t : State) => va_P (dC, dI) vwCl [(ht, .inr (5, [.int vt_clerks, .ref ht_drops, .ref ht_tires, .ref ht_now, .ref ht_told, .ref ht_text, .int vt_length, .ref ht_pages, .int vt_acts, .int vt_next, .ref ht_row, .int vt_found, .ref ht_alike, .ref ht_table, .ref ht_keys, .ref ht_own, .long vt_seed, .ref ht_isKept, .ref ht_kept])), (ht_text, .inl (cI, 32, .inl vt_text))] t.heap ∧ va_K (dC, dI) vwCl [(cI, .int), (cJ, .long), (cZ, .boolean)] t ∧ va_D A [(ht, .inr (5, [.int vt_clerks, .ref ht_drops, .ref ht_tires, .ref ht_now, .ref ht_told, .ref ht_text, .int vt_length, .ref ht_pages, .int vt_acts, .int vt_next, .ref ht_row, .int vt_found, .ref ht_alike, .ref ht_table, .ref ht_keys, .ref ht_own, .long vt_seed, .ref ht_isKept, .ref ht_kept])), (ht_text, .inl (cI, 32, .inl vt_text))]) A
set_option maxHeartbeats 4000000 in
set_option maxRecDepth 100000 in
theorem k_X6_fault (l : Launch) (dC : Nat → ClassId) (dI : Nat → Nat → Nat) (cI cJ cZ : ClassId) (sz : Nat) (ht ht_drops ht_tires ht_now ht_told ht_text ht_pages ht_row ht_alike ht_table ht_keys ht_own ht_isKept ht_kept : Nat) (vt_clerks : Int32) (vt_length : Int32) (vt_acts : Int32) (vt_next : Int32) (vt_found : Int32) (vt_seed : Int64) (vt_text : Nat → Int32) (N : Nat) (R : Int32) (hf : f_X6_fault N vt_length vt_text = some R) : Met l yX6_fault wsX6_fault (rm_X6_fault) (va_Pc [.ref ht] (fun U => U.heap.size = sz ∧ va_P (dC, dI) vwCl [(ht, .inr (5, [.int vt_clerks, .ref ht_drops, .ref ht_tires, .ref ht_now, .ref ht_told, .ref ht_text, .int vt_length, .ref ht_pages, .int vt_acts, .int vt_next, .ref ht_row, .int vt_found, .ref ht_alike, .ref ht_table, .ref ht_keys, .ref ht_own, .long vt_seed, .ref ht_isKept, .ref ht_kept])), (ht_text, .inl (cI, 32, .inl vt_text))] U.heap ∧ va_K (dC, dI) vwCl [(cI, .int), (cJ, .long), (cZ, .boolean)] U ∧ va_D (fun _ => True) [(ht, .inr (5, [.int vt_clerks, .ref ht_drops, .ref ht_tires, .ref ht_now, .ref ht_told, .ref ht_text, .int vt_length, .ref ht_pages, .int vt_acts, .int vt_next, .ref ht_row, .int vt_found, .ref ht_alike, .ref ht_table, .ref ht_keys, .ref ht_own, .long vt_seed, .ref ht_isKept, .ref ht_kept])), (ht_text, .inl (cI, 32, .inl vt_text))])) (q_X6_fault dC dI cI cJ cZ ht ht_drops ht_tires ht_now ht_told ht_text ht_pages ht_row ht_alike ht_table ht_keys ht_own ht_isKept ht_kept vt_clerks vt_length vt_acts vt_next vt_found vt_seed vt_text R (va_A [(ht, .inr (5, [.int vt_clerks, .ref ht_drops, .ref ht_tires, .ref ht_now, .ref ht_told, .ref ht_text, .int vt_length, .ref ht_pages, .int vt_acts, .int vt_next, .ref ht_row, .int vt_found, .ref ht_alike, .ref ht_table, .ref ht_keys, .ref ht_own, .long vt_seed, .ref ht_isKept, .ref ht_kept])), (ht_text, .inl (cI, 32, .inl vt_text))] sz)) 0 0 (va_A [(ht, .inr (5, [.int vt_clerks, .ref ht_drops, .ref ht_tires, .ref ht_now, .ref ht_told, .ref ht_text, .int vt_length, .ref ht_pages, .int vt_acts, .int vt_next, .ref ht_row, .int vt_found, .ref ht_alike, .ref ht_table, .ref ht_keys, .ref ht_own, .long vt_seed, .ref ht_isKept, .ref ht_kept])), (ht_text, .inl (cI, 32, .inl vt_text))] sz) := by
  refine Met.ofW (cc := cX6_fault) (maxL := 2) (ret := (some .int)) (by decide) rfl ?_
  intro p e s m args below meth c s₁ B hml hv
  obtain ⟨rfl, hsz, hP, hK, hD0⟩ := hv
  have hx := B.exec
  have hb := B.bytes
  have hr := B.returns
  have hts := atoms_spec (ws := wsX6_fault) B.pre
  have hown : s.vm.findClass RX6 = some m.cls := findClass_of_methodNamed B.named
  have hlocks := B.notSynchronized
  clear B
  subst hsz
  have hw0 := hts (.fieldLink RX6 56 "ShorthandCourtModel" "length" "I") (by decide +kernel)
  have hinX6 : ∀ w ∈ u_ws RX6 TX6 19, w ∈ wsX6_fault := by decide +kernel
  have hD := hD0.self (sz := s.heap.size)
  clear hD0
  generalize hAe : va_A [(ht, .inr (5, [.int vt_clerks, .ref ht_drops, .ref ht_tires, .ref ht_now, .ref ht_told, .ref ht_text, .int vt_length, .ref ht_pages, .int vt_acts, .int vt_next, .ref ht_row, .int vt_found, .ref ht_alike, .ref ht_table, .ref ht_keys, .ref ht_own, .long vt_seed, .ref ht_isKept, .ref ht_kept])), (ht_text, .inl (cI, 32, .inl vt_text))] s.heap.size = A at hD ⊢
  have hA : ∀ q : Nat, s.heap.size ≤ q → A q := fun q h => by rw [← hAe]; exact Or.inr h
  clear hAe
  have hS : va_S A s.heap s.heap [] := va_S.rf
  have hl := lv_entry ([.ref ht]) (n := 2) (Nat.le_of_ble_eq_true rfl)
  rw [lg_entry_eq]
  generalize (lg_sl ([.ref ht]) ++ List.replicate (2 - (lg_sl ([.ref ht])).length) Slot.unset).toArray = ls at hl ⊢
  have hl : lv_has ls 2 [(0, .ref ht)] := hl
  unfold f_X6_fault at hf
  refine lv_iconst (v := 0) hx hb dX6_fault_0 (by decide) ?_
  refine lv_istore_n (lv' := [(1, .int (0:Int32)), (0, .ref ht)]) hx hb dX6_fault_1 rfl hl (by decide) rfl (fun ls hl => ?_)
  have ex2 : ∀ (z1_2 : Int32) (H : Heap) (locs : List Loc) (ls : Array Slot), va_P (dC, dI) vwCl [(ht, .inr (5, [.int vt_clerks, .ref ht_drops, .ref ht_tires, .ref ht_now, .ref ht_told, .ref ht_text, .int vt_length, .ref ht_pages, .int vt_acts, .int vt_next, .ref ht_row, .int vt_found, .ref ht_alike, .ref ht_table, .ref ht_keys, .ref ht_own, .long vt_seed, .ref ht_isKept, .ref ht_kept])), (ht_text, .inl (cI, 32, .inl vt_text))] H → va_D A [(ht, .inr (5, [.int vt_clerks, .ref ht_drops, .ref ht_tires, .ref ht_now, .ref ht_told, .ref ht_text, .int vt_length, .ref ht_pages, .int vt_acts, .int vt_next, .ref ht_row, .int vt_found, .ref ht_alike, .ref ht_table, .ref ht_keys, .ref ht_own, .long vt_seed, .ref ht_isKept, .ref ht_kept])), (ht_text, .inl (cI, 32, .inl vt_text))] → va_S A s.heap H locs → lv_has ls 2 [(1, .int z1_2), (0, .ref ht)] → (if vt_length ≤ (0:Int32) then some vt_length else if ((vt_length - (1:Int32)) - (vt_length - (1:Int32)) / (6:Int32) * (6:Int32)) = (0:Int32) then some (-9:Int32) else some vt_length) = some R → W p l e (rm_X6_fault) s m ([.ref ht] : List Value).toArray below meth c H locs 0 0 (MQ below (q_X6_fault dC dI cI cJ cZ ht ht_drops ht_tires ht_now ht_told ht_text ht_pages ht_row ht_alike ht_table ht_keys ht_own ht_isKept ht_kept vt_clerks vt_length vt_acts vt_next vt_found vt_seed vt_text R A) ([.ref ht] : List Value).toArray s 0 0 A) (F0 m 26 ls []) := by
    intro z1_2 H locs ls hP hD hS hl hf
    refine lv_aload_n hx hb dX6_fault_26 rfl (lv_at hl 1 rfl) ?_
    refine va_get (D := (dC, dI)) (ci := 5) (v := .int vt_length) (C := RX6) (T := TX6) (N := 19) hx hb hts hinX6 hown hK hP 0 rfl rfl 6 (by decide) hw0 (fun _ h9 => h9) rfl dX6_fault_27 ?_
    refine lv_if_le (tgt := 50) hx hb dX6_fault_30 (by decide) (fun c1 => ?_) (fun c1 => ?_)
    · replace hf := dg_t c1 hf
      refine lv_aload_n hx hb dX6_fault_50 rfl (lv_at hl 1 rfl) ?_
      refine va_get (D := (dC, dI)) (ci := 5) (v := .int vt_length) (C := RX6) (T := TX6) (N := 19) hx hb hts hinX6 hown hK hP 0 rfl rfl 6 (by decide) hw0 (fun _ h9 => h9) rfl dX6_fault_51 ?_
      have he := Option.some.inj hf
      have hP9 := hP
      have hD9 := hD
      exact W.iret (v := vt_length) hx hb hr (fun t eth hW => ⟨⟨vt_length, (), rfl, he.symm, by rw [eth]; exact hP9, va_K.moved hW.alike hK, hD9⟩, hS.F eth⟩) hS.2.2 dX6_fault_54
    · replace hf := dg_f c1 hf
      refine lv_aload_n hx hb dX6_fault_33 rfl (lv_at hl 1 rfl) ?_
      refine va_get (D := (dC, dI)) (ci := 5) (v := .int vt_length) (C := RX6) (T := TX6) (N := 19) hx hb hts hinX6 hown hK hP 0 rfl rfl 6 (by decide) hw0 (fun _ h9 => h9) rfl dX6_fault_34 ?_
      refine lv_iconst (v := 1) hx hb dX6_fault_37 (by decide) ?_
      refine lv_isub hx hb dX6_fault_38 ?_
      refine lv_bipush (v := 6) hx hb dX6_fault_39 (by decide) ?_
      refine lv_irem hx hb dX6_fault_41 (by decide) ?_
      refine lv_if_ne (tgt := 50) hx hb dX6_fault_42 (by decide) (fun c2 => ?_) (fun c2 => ?_)
      · replace hf := dg_f c2 hf
        refine lv_aload_n hx hb dX6_fault_50 rfl (lv_at hl 1 rfl) ?_
        refine va_get (D := (dC, dI)) (ci := 5) (v := .int vt_length) (C := RX6) (T := TX6) (N := 19) hx hb hts hinX6 hown hK hP 0 rfl rfl 6 (by decide) hw0 (fun _ h9 => h9) rfl dX6_fault_51 ?_
        have he := Option.some.inj hf
        have hP9 := hP
        have hD9 := hD
        exact W.iret (v := vt_length) hx hb hr (fun t eth hW => ⟨⟨vt_length, (), rfl, he.symm, by rw [eth]; exact hP9, va_K.moved hW.alike hK, hD9⟩, hS.F eth⟩) hS.2.2 dX6_fault_54
      · replace hf := dg_t c2 hf
        refine lv_bipush (v := -9) hx hb dX6_fault_45 (by decide) ?_
        refine lv_goto (tgt := 54) hx hb dX6_fault_47 (by decide) ?_
        have he := Option.some.inj hf
        have hP9 := hP
        have hD9 := hD
        exact W.iret (v := (-9:Int32)) hx hb hr (fun t eth hW => ⟨⟨(-9:Int32), (), rfl, he.symm, by rw [eth]; exact hP9, va_K.moved hW.alike hK, hD9⟩, hS.F eth⟩) hS.2.2 dX6_fault_54
  have lp2 : ∀ (n2 : Nat) (y1_2 : Int32) (H : Heap) (locs : List Loc) (ls : Array Slot), va_P (dC, dI) vwCl [(ht, .inr (5, [.int vt_clerks, .ref ht_drops, .ref ht_tires, .ref ht_now, .ref ht_told, .ref ht_text, .int vt_length, .ref ht_pages, .int vt_acts, .int vt_next, .ref ht_row, .int vt_found, .ref ht_alike, .ref ht_table, .ref ht_keys, .ref ht_own, .long vt_seed, .ref ht_isKept, .ref ht_kept])), (ht_text, .inl (cI, 32, .inl vt_text))] H → va_D A [(ht, .inr (5, [.int vt_clerks, .ref ht_drops, .ref ht_tires, .ref ht_now, .ref ht_told, .ref ht_text, .int vt_length, .ref ht_pages, .int vt_acts, .int vt_next, .ref ht_row, .int vt_found, .ref ht_alike, .ref ht_table, .ref ht_keys, .ref ht_own, .long vt_seed, .ref ht_isKept, .ref ht_kept])), (ht_text, .inl (cI, 32, .inl vt_text))] → va_S A s.heap H locs → lv_has ls 2 [(1, .int y1_2), (0, .ref ht)] → f_X6_fault_2 N vt_length vt_text (fun z1_2 => if vt_length ≤ (0:Int32) then some vt_length else if ((vt_length - (1:Int32)) - (vt_length - (1:Int32)) / (6:Int32) * (6:Int32)) = (0:Int32) then some (-9:Int32) else some vt_length) n2 y1_2 = some R → W p l e (rm_X6_fault) s m ([.ref ht] : List Value).toArray below meth c H locs 0 0 (MQ below (q_X6_fault dC dI cI cJ cZ ht ht_drops ht_tires ht_now ht_told ht_text ht_pages ht_row ht_alike ht_table ht_keys ht_own ht_isKept ht_kept vt_clerks vt_length vt_acts vt_next vt_found vt_seed vt_text R A) ([.ref ht] : List Value).toArray s 0 0 A) (F0 m 2 ls []) := by
    intro n2
    induction n2 with
    | zero => intro y1_2 H locs ls hP hD hS hl hf; rw [f_X6_fault_2] at hf; cases hf
    | succ n2 ih2 =>
      intro y1_2 H locs ls hP hD hS hl hf
      rw [f_X6_fault_2] at hf
      refine lv_iload_n hx hb dX6_fault_2 rfl (lv_at hl 0 rfl) ?_
      refine lv_aload_n hx hb dX6_fault_3 rfl (lv_at hl 1 rfl) ?_
      refine va_get (D := (dC, dI)) (ci := 5) (v := .int vt_length) (C := RX6) (T := TX6) (N := 19) hx hb hts hinX6 hown hK hP 0 rfl rfl 6 (by decide) hw0 (fun _ h9 => h9) rfl dX6_fault_4 ?_
      refine lv_icmp_ge (tgt := 26) hx hb dX6_fault_7 (by decide) (fun c3 => ?_) (fun c3 => ?_)
      · replace hf := dg_t c3 hf
        exact ex2 y1_2 _ _ _ hP hD hS (lv_sub hl [0, 1] rfl) hf
      · replace hf := dg_f c3 hf
        refine lv_aload_n hx hb dX6_fault_10 rfl (lv_at hl 1 rfl) ?_
        refine lv_iload_n hx hb dX6_fault_11 rfl (lv_at hl 0 rfl) ?_
        obtain ⟨x4, hx4, hf⟩ := dg_bind hf
        have hPc : va_P (dC, dI) vwCl [(ht, .inr (5, [.int vt_clerks, .ref ht_drops, .ref ht_tires, .ref ht_now, .ref ht_told, .ref ht_text, .int vt_length, .ref ht_pages, .int vt_acts, .int vt_next, .ref ht_row, .int vt_found, .ref ht_alike, .ref ht_table, .ref ht_keys, .ref ht_own, .long vt_seed, .ref ht_isKept, .ref ht_kept])), (ht_text, .inl (cI, 32, .inl vt_text))] H := hP.sub [0, 1] rfl
        have hDc : va_D A [(ht, .inr (5, [.int vt_clerks, .ref ht_drops, .ref ht_tires, .ref ht_now, .ref ht_told, .ref ht_text, .int vt_length, .ref ht_pages, .int vt_acts, .int vt_next, .ref ht_row, .int vt_found, .ref ht_alike, .ref ht_table, .ref ht_keys, .ref ht_own, .long vt_seed, .ref ht_isKept, .ref ht_kept])), (ht_text, .inl (cI, 32, .inl vt_text))] := hD.sub [0, 1] (by decide) rfl
        have hFc := va_free (wc := [(ht, .inr (5, [.int vt_clerks, .ref ht_drops, .ref ht_tires, .ref ht_now, .ref ht_told, .ref ht_text, .int vt_length, .ref ht_pages, .int vt_acts, .int vt_next, .ref ht_row, .int vt_found, .ref ht_alike, .ref ht_table, .ref ht_keys, .ref ht_own, .long vt_seed, .ref ht_isKept, .ref ht_kept])), (ht_text, .inl (cI, 32, .inl vt_text))]) hD hS hA [0, 1] rfl
        refine va_calli (va_runV (As := [.int y1_2]) (rest := []) ⟨hx, hb, hml, hown, hts⟩ (k_X6_mayBe l dC dI cI cJ cZ H.size ht ht_drops ht_tires ht_now ht_told ht_text ht_pages ht_row ht_alike ht_table ht_keys ht_own ht_isKept ht_kept y1_2 vt_clerks vt_length vt_acts vt_next vt_found vt_seed vt_text N x4 hx4) (cwV 1 hts gX6_fault_X6_mayBe rfl rfl rfl hd_X6_mayBe ⟨Nat.le_of_ble_eq_true rfl, Nat.le_of_ble_eq_true rfl⟩) ⟨blind_pc, va_recv hK hPc (ci := 5) (q0 := 0) rfl rfl, pre_pc hPc hK hDc⟩ rfl rfl hl.1 rfl (lv_room (Nat.le_of_ble_eq_true rfl)) dX6_fault_12 ⟨Nat.zero_le _, Nat.zero_le _⟩) hS (fun q _ h => hFc q h) hFc (fun r u t H1 locs eth hvm hw hB hz1 hk1 hS => ?_)
        obtain ⟨hP1, hK1, hD1⟩ := hB
        rw [eth] at hP1
        subst hw
        obtain ⟨hP, hD⟩ := va_join (wr := []) (w1 := [(ht, .inr (5, [.int vt_clerks, .ref ht_drops, .ref ht_tires, .ref ht_now, .ref ht_told, .ref ht_text, .int vt_length, .ref ht_pages, .int vt_acts, .int vt_next, .ref ht_row, .int vt_found, .ref ht_alike, .ref ht_table, .ref ht_keys, .ref ht_own, .long vt_seed, .ref ht_isKept, .ref ht_kept])), (ht_text, .inl (cI, 32, .inl vt_text))]) hP hD [0, 1] [] rfl rfl (by decide) (by decide) hk1 hFc hP1 hD1
        clear hP1 hK1 hD1 hPc hDc hFc hk1 hz1 hvm eth
        generalize H1 = H at hP hS ⊢
        have hP : va_P (dC, dI) vwCl [(ht, .inr (5, [.int vt_clerks, .ref ht_drops, .ref ht_tires, .ref ht_now, .ref ht_told, .ref ht_text, .int vt_length, .ref ht_pages, .int vt_acts, .int vt_next, .ref ht_row, .int vt_found, .ref ht_alike, .ref ht_table, .ref ht_keys, .ref ht_own, .long vt_seed, .ref ht_isKept, .ref ht_kept])), (ht_text, .inl (cI, 32, .inl vt_text))] H := hP
        have hD : va_D A [(ht, .inr (5, [.int vt_clerks, .ref ht_drops, .ref ht_tires, .ref ht_now, .ref ht_told, .ref ht_text, .int vt_length, .ref ht_pages, .int vt_acts, .int vt_next, .ref ht_row, .int vt_found, .ref ht_alike, .ref ht_table, .ref ht_keys, .ref ht_own, .long vt_seed, .ref ht_isKept, .ref ht_kept])), (ht_text, .inl (cI, 32, .inl vt_text))] := hD
        refine lv_if_ne (tgt := 20) hx hb dX6_fault_15 (by decide) (fun c5 => ?_) (fun c5 => ?_)
        · replace hf := dg_f c5 hf
          refine lv_iinc (v := (y1_2 + (1:Int32))) (lv' := [(1, .int (y1_2 + (1:Int32))), (0, .ref ht)]) hx hb dX6_fault_20 hl (k := 0) rfl (by first | rfl | decide) (by decide) rfl (fun ls hl => ?_)
          refine lv_goto (tgt := 2) hx hb dX6_fault_23 (by decide) ?_
          exact ih2 (y1_2 + (1:Int32)) _ _ _ hP hD hS (lv_sub hl [0, 1] rfl) hf
        · replace hf := dg_t c5 hf
          refine lv_iload_n hx hb dX6_fault_18 rfl (lv_at hl 0 rfl) ?_
          have he := Option.some.inj hf
          have hP9 := hP
          have hD9 := hD
          exact W.iret (v := y1_2) hx hb hr (fun t eth hW => ⟨⟨y1_2, (), rfl, he.symm, by rw [eth]; exact hP9, va_K.moved hW.alike hK, hD9⟩, hS.F eth⟩) hS.2.2 dX6_fault_19
  exact lp2 N (0:Int32) _ _ _ hP hD hS hl hf
theorem hd_X6_sign : yX6_sign.cls = RX6 ∧ yX6_sign.cls ≠ "java/lang/invoke/MethodHandle" ∧ yX6_sign.cls ≠ "java/lang/invoke/VarHandle" ∧ (parseMethodDescriptor yX6_sign.desc).map (fun d => d.parameters.length) = some 2 := by decide +kernel
abbrev rm_X6_sign : Room := { frames := 0, cells := 0, slots := 0, locals := 0 }
abbrev q_X6_sign (dC : Nat → ClassId) (dI : Nat → Nat → Nat) (cI cJ cZ : ClassId) (ht ht_drops ht_tires ht_now ht_told ht_text ht_pages ht_row ht_alike ht_table ht_keys ht_own ht_isKept ht_kept : Nat) (vt_clerks : Int32) (vt_length : Int32) (vt_acts : Int32) (vt_next : Int32) (vt_found : Int32) (vt_seed : Int64) (vt_text : Nat → Int32) (R : Int32) (A : Nat → Prop) : Array Value → State → Outcome → State → Prop := va_Qi (fun (r : Int32) (_ : Unit) => R = r) (fun (u : Unit) (t : State) => va_P (dC, dI) vwCl [(ht, .inr (5, [.int vt_clerks, .ref ht_drops, .ref ht_tires, .ref ht_now, .ref ht_told, .ref ht_text, .int vt_length, .ref ht_pages, .int vt_acts, .int vt_next, .ref ht_row, .int vt_found, .ref ht_alike, .ref ht_table, .ref ht_keys, .ref ht_own, .long vt_seed, .ref ht_isKept, .ref ht_kept])), (ht_text, .inl (cI, 32, .inl vt_text))] t.heap ∧ va_K (dC, dI) vwCl [(cI, .int), (cJ, .long), (cZ, .boolean)] t ∧ va_D A [(ht, .inr (5, [.int vt_clerks, .ref ht_drops, .ref ht_tires, .ref ht_now, .ref ht_told, .ref ht_text, .int vt_length, .ref ht_pages, .int vt_acts, .int vt_next, .ref ht_row, .int vt_found, .ref ht_alike, .ref ht_table, .ref ht_keys, .ref ht_own, .long vt_seed, .ref ht_isKept, .ref ht_kept])), (ht_text, .inl (cI, 32, .inl vt_text))]) A
set_option maxHeartbeats 4000000 in
set_option maxRecDepth 100000 in
theorem k_X6_sign (l : Launch) (dC : Nat → ClassId) (dI : Nat → Nat → Nat) (cI cJ cZ : ClassId) (sz : Nat) (ht ht_drops ht_tires ht_now ht_told ht_text ht_pages ht_row ht_alike ht_table ht_keys ht_own ht_isKept ht_kept : Nat) (a1 : Int32) (a2 : Int32) (vt_clerks : Int32) (vt_length : Int32) (vt_acts : Int32) (vt_next : Int32) (vt_found : Int32) (vt_seed : Int64) (vt_text : Nat → Int32) (N : Nat) (R : Int32) (hf : f_X6_sign N a1 a2 vt_text = some R) : Met l yX6_sign wsX6_sign (rm_X6_sign) (va_Pc [.ref ht, .int a1, .int a2] (fun U => U.heap.size = sz ∧ va_P (dC, dI) vwCl [(ht, .inr (5, [.int vt_clerks, .ref ht_drops, .ref ht_tires, .ref ht_now, .ref ht_told, .ref ht_text, .int vt_length, .ref ht_pages, .int vt_acts, .int vt_next, .ref ht_row, .int vt_found, .ref ht_alike, .ref ht_table, .ref ht_keys, .ref ht_own, .long vt_seed, .ref ht_isKept, .ref ht_kept])), (ht_text, .inl (cI, 32, .inl vt_text))] U.heap ∧ va_K (dC, dI) vwCl [(cI, .int), (cJ, .long), (cZ, .boolean)] U ∧ va_D (fun _ => True) [(ht, .inr (5, [.int vt_clerks, .ref ht_drops, .ref ht_tires, .ref ht_now, .ref ht_told, .ref ht_text, .int vt_length, .ref ht_pages, .int vt_acts, .int vt_next, .ref ht_row, .int vt_found, .ref ht_alike, .ref ht_table, .ref ht_keys, .ref ht_own, .long vt_seed, .ref ht_isKept, .ref ht_kept])), (ht_text, .inl (cI, 32, .inl vt_text))])) (q_X6_sign dC dI cI cJ cZ ht ht_drops ht_tires ht_now ht_told ht_text ht_pages ht_row ht_alike ht_table ht_keys ht_own ht_isKept ht_kept vt_clerks vt_length vt_acts vt_next vt_found vt_seed vt_text R (va_A [(ht, .inr (5, [.int vt_clerks, .ref ht_drops, .ref ht_tires, .ref ht_now, .ref ht_told, .ref ht_text, .int vt_length, .ref ht_pages, .int vt_acts, .int vt_next, .ref ht_row, .int vt_found, .ref ht_alike, .ref ht_table, .ref ht_keys, .ref ht_own, .long vt_seed, .ref ht_isKept, .ref ht_kept])), (ht_text, .inl (cI, 32, .inl vt_text))] sz)) 0 0 (va_A [(ht, .inr (5, [.int vt_clerks, .ref ht_drops, .ref ht_tires, .ref ht_now, .ref ht_told, .ref ht_text, .int vt_length, .ref ht_pages, .int vt_acts, .int vt_next, .ref ht_row, .int vt_found, .ref ht_alike, .ref ht_table, .ref ht_keys, .ref ht_own, .long vt_seed, .ref ht_isKept, .ref ht_kept])), (ht_text, .inl (cI, 32, .inl vt_text))] sz) := by
  refine Met.ofW (cc := cX6_sign) (maxL := 3) (ret := (some .int)) (by decide) rfl ?_
  intro p e s m args below meth c s₁ B hml hv
  obtain ⟨rfl, hsz, hP, hK, hD0⟩ := hv
  have hx := B.exec
  have hb := B.bytes
  have hr := B.returns
  have hts := atoms_spec (ws := wsX6_sign) B.pre
  have hown : s.vm.findClass RX6 = some m.cls := findClass_of_methodNamed B.named
  have hlocks := B.notSynchronized
  clear B
  subst hsz
  have hw0 := hts (.fieldLink RX6 22 "ShorthandCourtModel" "text" "[I") (by decide +kernel)
  have hinX6 : ∀ w ∈ u_ws RX6 TX6 19, w ∈ wsX6_sign := by decide +kernel
  have hD := hD0.self (sz := s.heap.size)
  clear hD0
  generalize hAe : va_A [(ht, .inr (5, [.int vt_clerks, .ref ht_drops, .ref ht_tires, .ref ht_now, .ref ht_told, .ref ht_text, .int vt_length, .ref ht_pages, .int vt_acts, .int vt_next, .ref ht_row, .int vt_found, .ref ht_alike, .ref ht_table, .ref ht_keys, .ref ht_own, .long vt_seed, .ref ht_isKept, .ref ht_kept])), (ht_text, .inl (cI, 32, .inl vt_text))] s.heap.size = A at hD ⊢
  have hA : ∀ q : Nat, s.heap.size ≤ q → A q := fun q h => by rw [← hAe]; exact Or.inr h
  clear hAe
  have hS : va_S A s.heap s.heap [] := va_S.rf
  have hl := lv_entry ([.ref ht, .int a1, .int a2]) (n := 3) (Nat.le_of_ble_eq_true rfl)
  rw [lg_entry_eq]
  generalize (lg_sl ([.ref ht, .int a1, .int a2]) ++ List.replicate (3 - (lg_sl ([.ref ht, .int a1, .int a2])).length) Slot.unset).toArray = ls at hl ⊢
  have hl : lv_has ls 3 [(0, .ref ht), (1, .int a1), (2, .int a2)] := hl
  unfold f_X6_sign at hf
  refine lv_aload_n hx hb dX6_sign_0 rfl (lv_at hl 0 rfl) ?_
  refine va_get (D := (dC, dI)) (ci := 5) (v := .ref ht_text) (C := RX6) (T := TX6) (N := 19) hx hb hts hinX6 hown hK hP 0 rfl rfl 5 (by decide) hw0 (fun _ h9 => h9) rfl dX6_sign_1 ?_
  refine lv_iload_n hx hb dX6_sign_4 rfl (lv_at hl 1 rfl) ?_
  obtain ⟨hi1, hf⟩ := dg_ix hf
  refine va_iald hx hb hK hP 1 0 rfl rfl hi1 dX6_sign_5 ?_
  refine lv_bipush (v := 45) hx hb dX6_sign_6 (by decide) ?_
  refine lv_icmp_ne (tgt := 16) hx hb dX6_sign_8 (by decide) (fun c2 => ?_) (fun c2 => ?_)
  · replace hf := dg_f c2 hf
    refine lv_aload_n hx hb dX6_sign_16 rfl (lv_at hl 0 rfl) ?_
    refine va_get (D := (dC, dI)) (ci := 5) (v := .ref ht_text) (C := RX6) (T := TX6) (N := 19) hx hb hts hinX6 hown hK hP 0 rfl rfl 5 (by decide) hw0 (fun _ h9 => h9) rfl dX6_sign_17 ?_
    refine lv_iload_n hx hb dX6_sign_20 rfl (lv_at hl 1 rfl) ?_
    obtain ⟨hi3, hf⟩ := dg_ix hf
    refine va_iald hx hb hK hP 1 0 rfl rfl hi3 dX6_sign_21 ?_
    refine lv_iload_n hx hb dX6_sign_22 rfl (lv_at hl 2 rfl) ?_
    refine lv_isub hx hb dX6_sign_23 ?_
    have he := Option.some.inj hf
    have hP9 := hP
    have hD9 := hD
    exact W.iret (v := ((vt_text a1.toNatClampNeg) - a2)) hx hb hr (fun t eth hW => ⟨⟨((vt_text a1.toNatClampNeg) - a2), (), rfl, he.symm, by rw [eth]; exact hP9, va_K.moved hW.alike hK, hD9⟩, hS.F eth⟩) hS.2.2 dX6_sign_24
  · replace hf := dg_t c2 hf
    refine lv_bipush (v := -9) hx hb dX6_sign_11 (by decide) ?_
    refine lv_goto (tgt := 24) hx hb dX6_sign_13 (by decide) ?_
    have he := Option.some.inj hf
    have hP9 := hP
    have hD9 := hD
    exact W.iret (v := (-9:Int32)) hx hb hr (fun t eth hW => ⟨⟨(-9:Int32), (), rfl, he.symm, by rw [eth]; exact hP9, va_K.moved hW.alike hK, hD9⟩, hS.F eth⟩) hS.2.2 dX6_sign_24
theorem hd_X6_court : yX6_court.cls = RX6 ∧ yX6_court.cls ≠ "java/lang/invoke/MethodHandle" ∧ yX6_court.cls ≠ "java/lang/invoke/VarHandle" ∧ (parseMethodDescriptor yX6_court.desc).map (fun d => d.parameters.length) = some 0 := by decide +kernel
abbrev rm_X6_court : Room := { frames := 4, cells := 0, slots := 0, locals := 88 }
abbrev q_X6_court (dC : Nat → ClassId) (dI : Nat → Nat → Nat) (cI cJ cZ : ClassId) (ht ht_drops ht_tires ht_now ht_told ht_text ht_pages ht_row ht_alike ht_table ht_keys ht_own ht_isKept ht_kept : Nat) (vt_length : Int32) (vt_next : Int32) (vt_found : Int32) (vt_seed : Int64) (vt_text : Nat → Int32) (R : Int32 × Int32 × Int32 × (Nat → Int32) × (Nat → Int32) × (Nat → Int32) × (Nat → Int32) × (Nat → Int32)) (A : Nat → Prop) : Array Value → State → Outcome → State → Prop := va_Qi (fun (r : Int32) (u : Int32 × Int32 × (Nat → Int32) × (Nat → Int32) × (Nat → Int32) × (Nat → Int32) × (Nat → Int32)) => R.1 = r ∧ R.2 = u) (fun (u : Int32 × Int32 × (Nat → Int32) × (Nat → Int32) × (Nat → Int32) × (Nat → Int32) × (Nat → Int32)) (t : State) => va_P (dC, dI) vwCl [(ht, .inr (5, [.int u.1, .ref ht_drops, .ref ht_tires, .ref ht_now, .ref ht_told, .ref ht_text, .int vt_length, .ref ht_pages, .int u.2.1, .int vt_next, .ref ht_row, .int vt_found, .ref ht_alike, .ref ht_table, .ref ht_keys, .ref ht_own, .long vt_seed, .ref ht_isKept, .ref ht_kept])), (ht_drops, .inl (cI, 4, .inl u.2.2.1)), (ht_tires, .inl (cI, 4, .inl u.2.2.2.1)), (ht_now, .inl (cI, 13, .inl u.2.2.2.2.1)), (ht_told, .inl (cI, 4, .inl u.2.2.2.2.2.1)), (ht_text, .inl (cI, 32, .inl vt_text)), (ht_isKept, .inl (cZ, 2, .inl u.2.2.2.2.2.2))] t.heap ∧ va_K (dC, dI) vwCl [(cI, .int), (cJ, .long), (cZ, .boolean)] t ∧ va_D A [(ht, .inr (5, [.int u.1, .ref ht_drops, .ref ht_tires, .ref ht_now, .ref ht_told, .ref ht_text, .int vt_length, .ref ht_pages, .int u.2.1, .int vt_next, .ref ht_row, .int vt_found, .ref ht_alike, .ref ht_table, .ref ht_keys, .ref ht_own, .long vt_seed, .ref ht_isKept, .ref ht_kept])), (ht_drops, .inl (cI, 4, .inl u.2.2.1)), (ht_tires, .inl (cI, 4, .inl u.2.2.2.1)), (ht_now, .inl (cI, 13, .inl u.2.2.2.2.1)), (ht_told, .inl (cI, 4, .inl u.2.2.2.2.2.1)), (ht_text, .inl (cI, 32, .inl vt_text)), (ht_isKept, .inl (cZ, 2, .inl u.2.2.2.2.2.2))]) A
set_option maxHeartbeats 4000000 in
set_option maxRecDepth 100000 in
theorem k_X6_court (l : Launch) (dC : Nat → ClassId) (dI : Nat → Nat → Nat) (cI cJ cZ : ClassId) (sz : Nat) (ht ht_drops ht_tires ht_now ht_told ht_text ht_pages ht_row ht_alike ht_table ht_keys ht_own ht_isKept ht_kept : Nat) (vt_clerks : Int32) (vt_length : Int32) (vt_acts : Int32) (vt_next : Int32) (vt_found : Int32) (vt_seed : Int64) (vt_drops : Nat → Int32) (vt_tires : Nat → Int32) (vt_now : Nat → Int32) (vt_told : Nat → Int32) (vt_text : Nat → Int32) (vt_isKept : Nat → Int32) (N : Nat) (R : Int32 × Int32 × Int32 × (Nat → Int32) × (Nat → Int32) × (Nat → Int32) × (Nat → Int32) × (Nat → Int32)) (hf : f_X6_court N vt_clerks vt_length vt_acts vt_drops vt_tires vt_now vt_told vt_text vt_isKept = some R) : Met l yX6_court wsX6_court (rm_X6_court) (va_Pc [.ref ht] (fun U => U.heap.size = sz ∧ va_P (dC, dI) vwCl [(ht, .inr (5, [.int vt_clerks, .ref ht_drops, .ref ht_tires, .ref ht_now, .ref ht_told, .ref ht_text, .int vt_length, .ref ht_pages, .int vt_acts, .int vt_next, .ref ht_row, .int vt_found, .ref ht_alike, .ref ht_table, .ref ht_keys, .ref ht_own, .long vt_seed, .ref ht_isKept, .ref ht_kept])), (ht_drops, .inl (cI, 4, .inl vt_drops)), (ht_tires, .inl (cI, 4, .inl vt_tires)), (ht_now, .inl (cI, 13, .inl vt_now)), (ht_told, .inl (cI, 4, .inl vt_told)), (ht_text, .inl (cI, 32, .inl vt_text)), (ht_isKept, .inl (cZ, 2, .inl vt_isKept))] U.heap ∧ va_K (dC, dI) vwCl [(cI, .int), (cJ, .long), (cZ, .boolean)] U ∧ va_D (fun _ => True) [(ht, .inr (5, [.int vt_clerks, .ref ht_drops, .ref ht_tires, .ref ht_now, .ref ht_told, .ref ht_text, .int vt_length, .ref ht_pages, .int vt_acts, .int vt_next, .ref ht_row, .int vt_found, .ref ht_alike, .ref ht_table, .ref ht_keys, .ref ht_own, .long vt_seed, .ref ht_isKept, .ref ht_kept])), (ht_drops, .inl (cI, 4, .inl vt_drops)), (ht_tires, .inl (cI, 4, .inl vt_tires)), (ht_now, .inl (cI, 13, .inl vt_now)), (ht_told, .inl (cI, 4, .inl vt_told)), (ht_text, .inl (cI, 32, .inl vt_text)), (ht_isKept, .inl (cZ, 2, .inl vt_isKept))])) (q_X6_court dC dI cI cJ cZ ht ht_drops ht_tires ht_now ht_told ht_text ht_pages ht_row ht_alike ht_table ht_keys ht_own ht_isKept ht_kept vt_length vt_next vt_found vt_seed vt_text R (va_A [(ht, .inr (5, [.int vt_clerks, .ref ht_drops, .ref ht_tires, .ref ht_now, .ref ht_told, .ref ht_text, .int vt_length, .ref ht_pages, .int vt_acts, .int vt_next, .ref ht_row, .int vt_found, .ref ht_alike, .ref ht_table, .ref ht_keys, .ref ht_own, .long vt_seed, .ref ht_isKept, .ref ht_kept])), (ht_drops, .inl (cI, 4, .inl vt_drops)), (ht_tires, .inl (cI, 4, .inl vt_tires)), (ht_now, .inl (cI, 13, .inl vt_now)), (ht_told, .inl (cI, 4, .inl vt_told)), (ht_text, .inl (cI, 32, .inl vt_text)), (ht_isKept, .inl (cZ, 2, .inl vt_isKept))] sz)) 0 0 (va_A [(ht, .inr (5, [.int vt_clerks, .ref ht_drops, .ref ht_tires, .ref ht_now, .ref ht_told, .ref ht_text, .int vt_length, .ref ht_pages, .int vt_acts, .int vt_next, .ref ht_row, .int vt_found, .ref ht_alike, .ref ht_table, .ref ht_keys, .ref ht_own, .long vt_seed, .ref ht_isKept, .ref ht_kept])), (ht_drops, .inl (cI, 4, .inl vt_drops)), (ht_tires, .inl (cI, 4, .inl vt_tires)), (ht_now, .inl (cI, 13, .inl vt_now)), (ht_told, .inl (cI, 4, .inl vt_told)), (ht_text, .inl (cI, 32, .inl vt_text)), (ht_isKept, .inl (cZ, 2, .inl vt_isKept))] sz) := by
  refine Met.ofW (cc := cX6_court) (maxL := 4) (ret := (some .int)) (by decide) rfl ?_
  intro p e s m args below meth c s₁ B hml hv
  obtain ⟨rfl, hsz, hP, hK, hD0⟩ := hv
  have hx := B.exec
  have hb := B.bytes
  have hr := B.returns
  have hts := atoms_spec (ws := wsX6_court) B.pre
  have hown : s.vm.findClass RX6 = some m.cls := findClass_of_methodNamed B.named
  have hlocks := B.notSynchronized
  clear B
  subst hsz
  have hw0 := hts (.fieldLink RX6 56 "ShorthandCourtModel" "length" "I") (by decide +kernel)
  have hw1 := hts (.fieldLink RX6 79 "ShorthandCourtModel" "clerks" "I") (by decide +kernel)
  have hw2 := hts (.fieldLink RX6 16 "ShorthandCourtModel" "now" "[I") (by decide +kernel)
  have hw3 := hts (.fieldLink RX6 86 "ShorthandCourtModel" "acts" "I") (by decide +kernel)
  have hw4 := hts (.fieldLink RX6 43 "ShorthandCourtModel" "isKept" "[Z") (by decide +kernel)
  have hw5 := hts (.fieldLink RX6 7 "ShorthandCourtModel" "drops" "[I") (by decide +kernel)
  have hw6 := hts (.fieldLink RX6 13 "ShorthandCourtModel" "tires" "[I") (by decide +kernel)
  have hw7 := hts (.fieldLink RX6 19 "ShorthandCourtModel" "told" "[I") (by decide +kernel)
  have hw8 := hts (.fieldLink RX6 22 "ShorthandCourtModel" "text" "[I") (by decide +kernel)
  have hinX6 : ∀ w ∈ u_ws RX6 TX6 19, w ∈ wsX6_court := by decide +kernel
  have hD := hD0.self (sz := s.heap.size)
  clear hD0
  generalize hAe : va_A [(ht, .inr (5, [.int vt_clerks, .ref ht_drops, .ref ht_tires, .ref ht_now, .ref ht_told, .ref ht_text, .int vt_length, .ref ht_pages, .int vt_acts, .int vt_next, .ref ht_row, .int vt_found, .ref ht_alike, .ref ht_table, .ref ht_keys, .ref ht_own, .long vt_seed, .ref ht_isKept, .ref ht_kept])), (ht_drops, .inl (cI, 4, .inl vt_drops)), (ht_tires, .inl (cI, 4, .inl vt_tires)), (ht_now, .inl (cI, 13, .inl vt_now)), (ht_told, .inl (cI, 4, .inl vt_told)), (ht_text, .inl (cI, 32, .inl vt_text)), (ht_isKept, .inl (cZ, 2, .inl vt_isKept))] s.heap.size = A at hD ⊢
  have hA : ∀ q : Nat, s.heap.size ≤ q → A q := fun q h => by rw [← hAe]; exact Or.inr h
  clear hAe
  have hS : va_S A s.heap s.heap [] := va_S.rf
  have hl := lv_entry ([.ref ht]) (n := 4) (Nat.le_of_ble_eq_true rfl)
  rw [lg_entry_eq]
  generalize (lg_sl ([.ref ht]) ++ List.replicate (4 - (lg_sl ([.ref ht])).length) Slot.unset).toArray = ls at hl ⊢
  have hl : lv_has ls 4 [(0, .ref ht)] := hl
  unfold f_X6_court at hf
  refine lv_aload_n hx hb dX6_court_0 rfl (lv_at hl 0 rfl) ?_
  obtain ⟨x1, hx1, hf⟩ := dg_bind hf
  have hPc : va_P (dC, dI) vwCl [(ht, .inr (5, [.int vt_clerks, .ref ht_drops, .ref ht_tires, .ref ht_now, .ref ht_told, .ref ht_text, .int vt_length, .ref ht_pages, .int vt_acts, .int vt_next, .ref ht_row, .int vt_found, .ref ht_alike, .ref ht_table, .ref ht_keys, .ref ht_own, .long vt_seed, .ref ht_isKept, .ref ht_kept])), (ht_text, .inl (cI, 32, .inl vt_text))] s.heap := hP.sub [0, 5] rfl
  have hDc : va_D A [(ht, .inr (5, [.int vt_clerks, .ref ht_drops, .ref ht_tires, .ref ht_now, .ref ht_told, .ref ht_text, .int vt_length, .ref ht_pages, .int vt_acts, .int vt_next, .ref ht_row, .int vt_found, .ref ht_alike, .ref ht_table, .ref ht_keys, .ref ht_own, .long vt_seed, .ref ht_isKept, .ref ht_kept])), (ht_text, .inl (cI, 32, .inl vt_text))] := hD.sub [0, 5] (by decide) rfl
  have hFc := va_free (wc := [(ht, .inr (5, [.int vt_clerks, .ref ht_drops, .ref ht_tires, .ref ht_now, .ref ht_told, .ref ht_text, .int vt_length, .ref ht_pages, .int vt_acts, .int vt_next, .ref ht_row, .int vt_found, .ref ht_alike, .ref ht_table, .ref ht_keys, .ref ht_own, .long vt_seed, .ref ht_isKept, .ref ht_kept])), (ht_text, .inl (cI, 32, .inl vt_text))]) hD hS hA [0, 5] rfl
  refine va_calli (va_runV (As := []) (rest := []) ⟨hx, hb, hml, hown, hts⟩ (k_X6_fault l dC dI cI cJ cZ s.heap.size ht ht_drops ht_tires ht_now ht_told ht_text ht_pages ht_row ht_alike ht_table ht_keys ht_own ht_isKept ht_kept vt_clerks vt_length vt_acts vt_next vt_found vt_seed vt_text N x1 hx1) (cwV 0 hts gX6_court_X6_fault rfl rfl rfl hd_X6_fault ⟨Nat.le_of_ble_eq_true rfl, Nat.le_of_ble_eq_true rfl⟩) ⟨blind_pc, va_recv hK hPc (ci := 5) (q0 := 0) rfl rfl, pre_pc hPc hK hDc⟩ rfl rfl hl.1 rfl (lv_room (Nat.le_of_ble_eq_true rfl)) dX6_court_1 ⟨Nat.zero_le _, Nat.zero_le _⟩) hS (fun q _ h => hFc q h) hFc (fun r u t H1 locs eth hvm hw hB hz1 hk1 hS => ?_)
  obtain ⟨hP1, hK1, hD1⟩ := hB
  rw [eth] at hP1
  subst hw
  obtain ⟨hP, hD⟩ := va_join (wr := [(ht_drops, .inl (cI, 4, .inl vt_drops)), (ht_tires, .inl (cI, 4, .inl vt_tires)), (ht_now, .inl (cI, 13, .inl vt_now)), (ht_told, .inl (cI, 4, .inl vt_told)), (ht_isKept, .inl (cZ, 2, .inl vt_isKept))]) (w1 := [(ht, .inr (5, [.int vt_clerks, .ref ht_drops, .ref ht_tires, .ref ht_now, .ref ht_told, .ref ht_text, .int vt_length, .ref ht_pages, .int vt_acts, .int vt_next, .ref ht_row, .int vt_found, .ref ht_alike, .ref ht_table, .ref ht_keys, .ref ht_own, .long vt_seed, .ref ht_isKept, .ref ht_kept])), (ht_text, .inl (cI, 32, .inl vt_text))]) hP hD [0, 5] [1, 2, 3, 4, 6] rfl rfl (by decide) (by decide) hk1 hFc hP1 hD1
  clear hP1 hK1 hD1 hPc hDc hFc hk1 hz1 hvm eth
  generalize H1 = H at hP hS ⊢
  have hP : va_P (dC, dI) vwCl [(ht_drops, .inl (cI, 4, .inl vt_drops)), (ht_tires, .inl (cI, 4, .inl vt_tires)), (ht_now, .inl (cI, 13, .inl vt_now)), (ht_told, .inl (cI, 4, .inl vt_told)), (ht_isKept, .inl (cZ, 2, .inl vt_isKept)), (ht, .inr (5, [.int vt_clerks, .ref ht_drops, .ref ht_tires, .ref ht_now, .ref ht_told, .ref ht_text, .int vt_length, .ref ht_pages, .int vt_acts, .int vt_next, .ref ht_row, .int vt_found, .ref ht_alike, .ref ht_table, .ref ht_keys, .ref ht_own, .long vt_seed, .ref ht_isKept, .ref ht_kept])), (ht_text, .inl (cI, 32, .inl vt_text))] H := hP
  have hD : va_D A [(ht_drops, .inl (cI, 4, .inl vt_drops)), (ht_tires, .inl (cI, 4, .inl vt_tires)), (ht_now, .inl (cI, 13, .inl vt_now)), (ht_told, .inl (cI, 4, .inl vt_told)), (ht_isKept, .inl (cZ, 2, .inl vt_isKept)), (ht, .inr (5, [.int vt_clerks, .ref ht_drops, .ref ht_tires, .ref ht_now, .ref ht_told, .ref ht_text, .int vt_length, .ref ht_pages, .int vt_acts, .int vt_next, .ref ht_row, .int vt_found, .ref ht_alike, .ref ht_table, .ref ht_keys, .ref ht_own, .long vt_seed, .ref ht_isKept, .ref ht_kept])), (ht_text, .inl (cI, 32, .inl vt_text))] := hD
  refine lv_bipush (v := -9) hx hb dX6_court_4 (by decide) ?_
  refine lv_icmp_eq (tgt := 12) hx hb dX6_court_6 (by decide) (fun c2 => ?_) (fun c2 => ?_)
  · replace hf := dg_t c2 hf
    refine lv_aload_n hx hb dX6_court_12 rfl (lv_at hl 0 rfl) ?_
    refine lv_aload_n hx hb dX6_court_13 rfl (lv_at hl 0 rfl) ?_
    refine va_get (D := (dC, dI)) (ci := 5) (v := .int vt_length) (C := RX6) (T := TX6) (N := 19) hx hb hts hinX6 hown hK hP 5 rfl rfl 6 (by decide) hw0 (fun _ h9 => h9) rfl dX6_court_14 ?_
    refine lv_iconst (v := 1) hx hb dX6_court_17 (by decide) ?_
    refine lv_isub hx hb dX6_court_18 ?_
    refine lv_bipush (v := 6) hx hb dX6_court_19 (by decide) ?_
    refine lv_idiv hx hb dX6_court_21 (by decide) ?_
    refine va_put (D := (dC, dI)) (ci := 5) (v := .int ((vt_length - (1:Int32)) / (6:Int32))) (ty := .int) (C := RX6) (T := TX6) (N := 19) hx hb hts hinX6 tyX6 tyX6_ok nmX6 hown hK hP hD hS 5 rfl rfl 0 (by decide) hw1 (fun _ h9 => h9) rfl (by decide +kernel) rfl rfl (Nat.le_of_ble_eq_true rfl) dX6_court_22 (fun H locs hP hD hS => ?_)
    have hP : va_P (dC, dI) vwCl [(ht_drops, .inl (cI, 4, .inl vt_drops)), (ht_tires, .inl (cI, 4, .inl vt_tires)), (ht_now, .inl (cI, 13, .inl vt_now)), (ht_told, .inl (cI, 4, .inl vt_told)), (ht_isKept, .inl (cZ, 2, .inl vt_isKept)), (ht, .inr (5, [.int ((vt_length - (1:Int32)) / (6:Int32)), .ref ht_drops, .ref ht_tires, .ref ht_now, .ref ht_told, .ref ht_text, .int vt_length, .ref ht_pages, .int vt_acts, .int vt_next, .ref ht_row, .int vt_found, .ref ht_alike, .ref ht_table, .ref ht_keys, .ref ht_own, .long vt_seed, .ref ht_isKept, .ref ht_kept])), (ht_text, .inl (cI, 32, .inl vt_text))] H := hP
    have hD : va_D A [(ht_drops, .inl (cI, 4, .inl vt_drops)), (ht_tires, .inl (cI, 4, .inl vt_tires)), (ht_now, .inl (cI, 13, .inl vt_now)), (ht_told, .inl (cI, 4, .inl vt_told)), (ht_isKept, .inl (cZ, 2, .inl vt_isKept)), (ht, .inr (5, [.int ((vt_length - (1:Int32)) / (6:Int32)), .ref ht_drops, .ref ht_tires, .ref ht_now, .ref ht_told, .ref ht_text, .int vt_length, .ref ht_pages, .int vt_acts, .int vt_next, .ref ht_row, .int vt_found, .ref ht_alike, .ref ht_table, .ref ht_keys, .ref ht_own, .long vt_seed, .ref ht_isKept, .ref ht_kept])), (ht_text, .inl (cI, 32, .inl vt_text))] := hD
    refine lv_aload_n hx hb dX6_court_25 rfl (lv_at hl 0 rfl) ?_
    refine va_get (D := (dC, dI)) (ci := 5) (v := .ref ht_now) (C := RX6) (T := TX6) (N := 19) hx hb hts hinX6 hown hK hP 5 rfl rfl 3 (by decide) hw2 (fun _ h9 => h9) rfl dX6_court_26 ?_
    refine lv_iconst (v := 0) hx hb dX6_court_29 (by decide) ?_
    refine lv_iconst (v := 0) hx hb dX6_court_30 (by decide) ?_
    refine va_iast hx hb hK hP hD hS 2 0 rfl rfl (vp_in_iff.mpr (by decide)) dX6_court_31 (fun H locs hP hD hS => ?_)
    have hP : va_P (dC, dI) vwCl [(ht_drops, .inl (cI, 4, .inl vt_drops)), (ht_tires, .inl (cI, 4, .inl vt_tires)), (ht_now, .inl (cI, 13, .inl (upd vt_now 0 (0:Int32)))), (ht_told, .inl (cI, 4, .inl vt_told)), (ht_isKept, .inl (cZ, 2, .inl vt_isKept)), (ht, .inr (5, [.int ((vt_length - (1:Int32)) / (6:Int32)), .ref ht_drops, .ref ht_tires, .ref ht_now, .ref ht_told, .ref ht_text, .int vt_length, .ref ht_pages, .int vt_acts, .int vt_next, .ref ht_row, .int vt_found, .ref ht_alike, .ref ht_table, .ref ht_keys, .ref ht_own, .long vt_seed, .ref ht_isKept, .ref ht_kept])), (ht_text, .inl (cI, 32, .inl vt_text))] H := hP
    have hD : va_D A [(ht_drops, .inl (cI, 4, .inl vt_drops)), (ht_tires, .inl (cI, 4, .inl vt_tires)), (ht_now, .inl (cI, 13, .inl (upd vt_now 0 (0:Int32)))), (ht_told, .inl (cI, 4, .inl vt_told)), (ht_isKept, .inl (cZ, 2, .inl vt_isKept)), (ht, .inr (5, [.int ((vt_length - (1:Int32)) / (6:Int32)), .ref ht_drops, .ref ht_tires, .ref ht_now, .ref ht_told, .ref ht_text, .int vt_length, .ref ht_pages, .int vt_acts, .int vt_next, .ref ht_row, .int vt_found, .ref ht_alike, .ref ht_table, .ref ht_keys, .ref ht_own, .long vt_seed, .ref ht_isKept, .ref ht_kept])), (ht_text, .inl (cI, 32, .inl vt_text))] := hD
    refine lv_iconst (v := 0) hx hb dX6_court_32 (by decide) ?_
    refine lv_istore_n (lv' := [(1, .int (0:Int32)), (0, .ref ht)]) hx hb dX6_court_33 rfl hl (by decide) rfl (fun ls hl => ?_)
    have ex34 : ∀ (z1_34 : Int32) (zvt_drops_34 : (Nat → Int32)) (zvt_tires_34 : (Nat → Int32)) (zvt_now_34 : (Nat → Int32)) (zvt_told_34 : (Nat → Int32)) (H : Heap) (locs : List Loc) (ls : Array Slot), va_P (dC, dI) vwCl [(ht_drops, .inl (cI, 4, .inl zvt_drops_34)), (ht_tires, .inl (cI, 4, .inl zvt_tires_34)), (ht_now, .inl (cI, 13, .inl zvt_now_34)), (ht_told, .inl (cI, 4, .inl zvt_told_34)), (ht_isKept, .inl (cZ, 2, .inl vt_isKept)), (ht, .inr (5, [.int ((vt_length - (1:Int32)) / (6:Int32)), .ref ht_drops, .ref ht_tires, .ref ht_now, .ref ht_told, .ref ht_text, .int vt_length, .ref ht_pages, .int vt_acts, .int vt_next, .ref ht_row, .int vt_found, .ref ht_alike, .ref ht_table, .ref ht_keys, .ref ht_own, .long vt_seed, .ref ht_isKept, .ref ht_kept])), (ht_text, .inl (cI, 32, .inl vt_text))] H → va_D A [(ht_drops, .inl (cI, 4, .inl zvt_drops_34)), (ht_tires, .inl (cI, 4, .inl zvt_tires_34)), (ht_now, .inl (cI, 13, .inl zvt_now_34)), (ht_told, .inl (cI, 4, .inl zvt_told_34)), (ht_isKept, .inl (cZ, 2, .inl vt_isKept)), (ht, .inr (5, [.int ((vt_length - (1:Int32)) / (6:Int32)), .ref ht_drops, .ref ht_tires, .ref ht_now, .ref ht_told, .ref ht_text, .int vt_length, .ref ht_pages, .int vt_acts, .int vt_next, .ref ht_row, .int vt_found, .ref ht_alike, .ref ht_table, .ref ht_keys, .ref ht_own, .long vt_seed, .ref ht_isKept, .ref ht_kept])), (ht_text, .inl (cI, 32, .inl vt_text))] → va_S A s.heap H locs → lv_has ls 4 [(1, .int z1_34), (0, .ref ht)] → (some (((vt_length - (1:Int32)) / (6:Int32)), (((vt_length - (1:Int32)) / (6:Int32)), (0:Int32), zvt_drops_34, zvt_tires_34, zvt_now_34, zvt_told_34, (upd (upd vt_isKept 0 (0:Int32)) 1 (0:Int32))))) = some R → W p l e (rm_X6_court) s m ([.ref ht] : List Value).toArray below meth c H locs 0 0 (MQ below (q_X6_court dC dI cI cJ cZ ht ht_drops ht_tires ht_now ht_told ht_text ht_pages ht_row ht_alike ht_table ht_keys ht_own ht_isKept ht_kept vt_length vt_next vt_found vt_seed vt_text R A) ([.ref ht] : List Value).toArray s 0 0 A) (F0 m 200 ls []) := by
      intro z1_34 zvt_drops_34 zvt_tires_34 zvt_now_34 zvt_told_34 H locs ls hP hD hS hl hf
      refine lv_aload_n hx hb dX6_court_200 rfl (lv_at hl 1 rfl) ?_
      refine lv_iconst (v := 0) hx hb dX6_court_201 (by decide) ?_
      refine va_put (D := (dC, dI)) (ci := 5) (v := .int (0:Int32)) (ty := .int) (C := RX6) (T := TX6) (N := 19) hx hb hts hinX6 tyX6 tyX6_ok nmX6 hown hK hP hD hS 5 rfl rfl 8 (by decide) hw3 (fun _ h9 => h9) rfl (by decide +kernel) rfl rfl (Nat.le_of_ble_eq_true rfl) dX6_court_202 (fun H locs hP hD hS => ?_)
      have hP : va_P (dC, dI) vwCl [(ht_drops, .inl (cI, 4, .inl zvt_drops_34)), (ht_tires, .inl (cI, 4, .inl zvt_tires_34)), (ht_now, .inl (cI, 13, .inl zvt_now_34)), (ht_told, .inl (cI, 4, .inl zvt_told_34)), (ht_isKept, .inl (cZ, 2, .inl vt_isKept)), (ht, .inr (5, [.int ((vt_length - (1:Int32)) / (6:Int32)), .ref ht_drops, .ref ht_tires, .ref ht_now, .ref ht_told, .ref ht_text, .int vt_length, .ref ht_pages, .int (0:Int32), .int vt_next, .ref ht_row, .int vt_found, .ref ht_alike, .ref ht_table, .ref ht_keys, .ref ht_own, .long vt_seed, .ref ht_isKept, .ref ht_kept])), (ht_text, .inl (cI, 32, .inl vt_text))] H := hP
      have hD : va_D A [(ht_drops, .inl (cI, 4, .inl zvt_drops_34)), (ht_tires, .inl (cI, 4, .inl zvt_tires_34)), (ht_now, .inl (cI, 13, .inl zvt_now_34)), (ht_told, .inl (cI, 4, .inl zvt_told_34)), (ht_isKept, .inl (cZ, 2, .inl vt_isKept)), (ht, .inr (5, [.int ((vt_length - (1:Int32)) / (6:Int32)), .ref ht_drops, .ref ht_tires, .ref ht_now, .ref ht_told, .ref ht_text, .int vt_length, .ref ht_pages, .int (0:Int32), .int vt_next, .ref ht_row, .int vt_found, .ref ht_alike, .ref ht_table, .ref ht_keys, .ref ht_own, .long vt_seed, .ref ht_isKept, .ref ht_kept])), (ht_text, .inl (cI, 32, .inl vt_text))] := hD
      refine lv_aload_n hx hb dX6_court_205 rfl (lv_at hl 1 rfl) ?_
      refine va_get (D := (dC, dI)) (ci := 5) (v := .ref ht_isKept) (C := RX6) (T := TX6) (N := 19) hx hb hts hinX6 hown hK hP 5 rfl rfl 17 (by decide) hw4 (fun _ h9 => h9) rfl dX6_court_206 ?_
      refine lv_iconst (v := 0) hx hb dX6_court_209 (by decide) ?_
      refine lv_iconst (v := 0) hx hb dX6_court_210 (by decide) ?_
      refine va_zast hx hb hK hP hD hS 4 2 rfl rfl (vp_in_iff.mpr (by decide)) dX6_court_211 (fun H locs hP hD hS => ?_)
      have hP : va_P (dC, dI) vwCl [(ht_drops, .inl (cI, 4, .inl zvt_drops_34)), (ht_tires, .inl (cI, 4, .inl zvt_tires_34)), (ht_now, .inl (cI, 13, .inl zvt_now_34)), (ht_told, .inl (cI, 4, .inl zvt_told_34)), (ht_isKept, .inl (cZ, 2, .inl (upd vt_isKept 0 (0:Int32)))), (ht, .inr (5, [.int ((vt_length - (1:Int32)) / (6:Int32)), .ref ht_drops, .ref ht_tires, .ref ht_now, .ref ht_told, .ref ht_text, .int vt_length, .ref ht_pages, .int (0:Int32), .int vt_next, .ref ht_row, .int vt_found, .ref ht_alike, .ref ht_table, .ref ht_keys, .ref ht_own, .long vt_seed, .ref ht_isKept, .ref ht_kept])), (ht_text, .inl (cI, 32, .inl vt_text))] H := hP
      have hD : va_D A [(ht_drops, .inl (cI, 4, .inl zvt_drops_34)), (ht_tires, .inl (cI, 4, .inl zvt_tires_34)), (ht_now, .inl (cI, 13, .inl zvt_now_34)), (ht_told, .inl (cI, 4, .inl zvt_told_34)), (ht_isKept, .inl (cZ, 2, .inl (upd vt_isKept 0 (0:Int32)))), (ht, .inr (5, [.int ((vt_length - (1:Int32)) / (6:Int32)), .ref ht_drops, .ref ht_tires, .ref ht_now, .ref ht_told, .ref ht_text, .int vt_length, .ref ht_pages, .int (0:Int32), .int vt_next, .ref ht_row, .int vt_found, .ref ht_alike, .ref ht_table, .ref ht_keys, .ref ht_own, .long vt_seed, .ref ht_isKept, .ref ht_kept])), (ht_text, .inl (cI, 32, .inl vt_text))] := hD
      refine lv_aload_n hx hb dX6_court_212 rfl (lv_at hl 1 rfl) ?_
      refine va_get (D := (dC, dI)) (ci := 5) (v := .ref ht_isKept) (C := RX6) (T := TX6) (N := 19) hx hb hts hinX6 hown hK hP 5 rfl rfl 17 (by decide) hw4 (fun _ h9 => h9) rfl dX6_court_213 ?_
      refine lv_iconst (v := 1) hx hb dX6_court_216 (by decide) ?_
      refine lv_iconst (v := 0) hx hb dX6_court_217 (by decide) ?_
      refine va_zast hx hb hK hP hD hS 4 2 rfl rfl (vp_in_iff.mpr (by decide)) dX6_court_218 (fun H locs hP hD hS => ?_)
      have hP : va_P (dC, dI) vwCl [(ht_drops, .inl (cI, 4, .inl zvt_drops_34)), (ht_tires, .inl (cI, 4, .inl zvt_tires_34)), (ht_now, .inl (cI, 13, .inl zvt_now_34)), (ht_told, .inl (cI, 4, .inl zvt_told_34)), (ht_isKept, .inl (cZ, 2, .inl (upd (upd vt_isKept 0 (0:Int32)) 1 (0:Int32)))), (ht, .inr (5, [.int ((vt_length - (1:Int32)) / (6:Int32)), .ref ht_drops, .ref ht_tires, .ref ht_now, .ref ht_told, .ref ht_text, .int vt_length, .ref ht_pages, .int (0:Int32), .int vt_next, .ref ht_row, .int vt_found, .ref ht_alike, .ref ht_table, .ref ht_keys, .ref ht_own, .long vt_seed, .ref ht_isKept, .ref ht_kept])), (ht_text, .inl (cI, 32, .inl vt_text))] H := hP
      have hD : va_D A [(ht_drops, .inl (cI, 4, .inl zvt_drops_34)), (ht_tires, .inl (cI, 4, .inl zvt_tires_34)), (ht_now, .inl (cI, 13, .inl zvt_now_34)), (ht_told, .inl (cI, 4, .inl zvt_told_34)), (ht_isKept, .inl (cZ, 2, .inl (upd (upd vt_isKept 0 (0:Int32)) 1 (0:Int32)))), (ht, .inr (5, [.int ((vt_length - (1:Int32)) / (6:Int32)), .ref ht_drops, .ref ht_tires, .ref ht_now, .ref ht_told, .ref ht_text, .int vt_length, .ref ht_pages, .int (0:Int32), .int vt_next, .ref ht_row, .int vt_found, .ref ht_alike, .ref ht_table, .ref ht_keys, .ref ht_own, .long vt_seed, .ref ht_isKept, .ref ht_kept])), (ht_text, .inl (cI, 32, .inl vt_text))] := hD
      refine lv_aload_n hx hb dX6_court_219 rfl (lv_at hl 1 rfl) ?_
      refine va_get (D := (dC, dI)) (ci := 5) (v := .int ((vt_length - (1:Int32)) / (6:Int32))) (C := RX6) (T := TX6) (N := 19) hx hb hts hinX6 hown hK hP 5 rfl rfl 0 (by decide) hw1 (fun _ h9 => h9) rfl dX6_court_220 ?_
      have he := Option.some.inj hf
      have hP9 := (hP.sub (ws' := [(ht, .inr (5, [.int ((vt_length - (1:Int32)) / (6:Int32)), .ref ht_drops, .ref ht_tires, .ref ht_now, .ref ht_told, .ref ht_text, .int vt_length, .ref ht_pages, .int (0:Int32), .int vt_next, .ref ht_row, .int vt_found, .ref ht_alike, .ref ht_table, .ref ht_keys, .ref ht_own, .long vt_seed, .ref ht_isKept, .ref ht_kept])), (ht_drops, .inl (cI, 4, .inl zvt_drops_34)), (ht_tires, .inl (cI, 4, .inl zvt_tires_34)), (ht_now, .inl (cI, 13, .inl zvt_now_34)), (ht_told, .inl (cI, 4, .inl zvt_told_34)), (ht_text, .inl (cI, 32, .inl vt_text)), (ht_isKept, .inl (cZ, 2, .inl (upd (upd vt_isKept 0 (0:Int32)) 1 (0:Int32))))]) [5, 0, 1, 2, 3, 6, 4] rfl)
      have hD9 := (hD.sub (ws' := [(ht, .inr (5, [.int ((vt_length - (1:Int32)) / (6:Int32)), .ref ht_drops, .ref ht_tires, .ref ht_now, .ref ht_told, .ref ht_text, .int vt_length, .ref ht_pages, .int (0:Int32), .int vt_next, .ref ht_row, .int vt_found, .ref ht_alike, .ref ht_table, .ref ht_keys, .ref ht_own, .long vt_seed, .ref ht_isKept, .ref ht_kept])), (ht_drops, .inl (cI, 4, .inl zvt_drops_34)), (ht_tires, .inl (cI, 4, .inl zvt_tires_34)), (ht_now, .inl (cI, 13, .inl zvt_now_34)), (ht_told, .inl (cI, 4, .inl zvt_told_34)), (ht_text, .inl (cI, 32, .inl vt_text)), (ht_isKept, .inl (cZ, 2, .inl (upd (upd vt_isKept 0 (0:Int32)) 1 (0:Int32))))]) [5, 0, 1, 2, 3, 6, 4] (by decide) rfl)
      exact W.iret (v := ((vt_length - (1:Int32)) / (6:Int32))) hx hb hr (fun t eth hW => ⟨⟨((vt_length - (1:Int32)) / (6:Int32)), (((vt_length - (1:Int32)) / (6:Int32)), (0:Int32), zvt_drops_34, zvt_tires_34, zvt_now_34, zvt_told_34, (upd (upd vt_isKept 0 (0:Int32)) 1 (0:Int32))), rfl, ⟨(congrArg Prod.fst he).symm, (congrArg Prod.snd he).symm⟩, by rw [eth]; exact hP9, va_K.moved hW.alike hK, hD9⟩, hS.F eth⟩) hS.2.2 dX6_court_223
    have lp34 : ∀ (n34 : Nat) (y1_34 : Int32) (yvt_drops_34 : (Nat → Int32)) (yvt_tires_34 : (Nat → Int32)) (yvt_now_34 : (Nat → Int32)) (yvt_told_34 : (Nat → Int32)) (H : Heap) (locs : List Loc) (ls : Array Slot), va_P (dC, dI) vwCl [(ht_drops, .inl (cI, 4, .inl yvt_drops_34)), (ht_tires, .inl (cI, 4, .inl yvt_tires_34)), (ht_now, .inl (cI, 13, .inl yvt_now_34)), (ht_told, .inl (cI, 4, .inl yvt_told_34)), (ht_isKept, .inl (cZ, 2, .inl vt_isKept)), (ht, .inr (5, [.int ((vt_length - (1:Int32)) / (6:Int32)), .ref ht_drops, .ref ht_tires, .ref ht_now, .ref ht_told, .ref ht_text, .int vt_length, .ref ht_pages, .int vt_acts, .int vt_next, .ref ht_row, .int vt_found, .ref ht_alike, .ref ht_table, .ref ht_keys, .ref ht_own, .long vt_seed, .ref ht_isKept, .ref ht_kept])), (ht_text, .inl (cI, 32, .inl vt_text))] H → va_D A [(ht_drops, .inl (cI, 4, .inl yvt_drops_34)), (ht_tires, .inl (cI, 4, .inl yvt_tires_34)), (ht_now, .inl (cI, 13, .inl yvt_now_34)), (ht_told, .inl (cI, 4, .inl yvt_told_34)), (ht_isKept, .inl (cZ, 2, .inl vt_isKept)), (ht, .inr (5, [.int ((vt_length - (1:Int32)) / (6:Int32)), .ref ht_drops, .ref ht_tires, .ref ht_now, .ref ht_told, .ref ht_text, .int vt_length, .ref ht_pages, .int vt_acts, .int vt_next, .ref ht_row, .int vt_found, .ref ht_alike, .ref ht_table, .ref ht_keys, .ref ht_own, .long vt_seed, .ref ht_isKept, .ref ht_kept])), (ht_text, .inl (cI, 32, .inl vt_text))] → va_S A s.heap H locs → lv_has ls 4 [(1, .int y1_34), (0, .ref ht)] → f_X6_court_34 N vt_length vt_text (fun z1_34 zvt_drops_34 zvt_tires_34 zvt_now_34 zvt_told_34 => some (((vt_length - (1:Int32)) / (6:Int32)), (((vt_length - (1:Int32)) / (6:Int32)), (0:Int32), zvt_drops_34, zvt_tires_34, zvt_now_34, zvt_told_34, (upd (upd vt_isKept 0 (0:Int32)) 1 (0:Int32))))) n34 y1_34 yvt_drops_34 yvt_tires_34 yvt_now_34 yvt_told_34 = some R → W p l e (rm_X6_court) s m ([.ref ht] : List Value).toArray below meth c H locs 0 0 (MQ below (q_X6_court dC dI cI cJ cZ ht ht_drops ht_tires ht_now ht_told ht_text ht_pages ht_row ht_alike ht_table ht_keys ht_own ht_isKept ht_kept vt_length vt_next vt_found vt_seed vt_text R A) ([.ref ht] : List Value).toArray s 0 0 A) (F0 m 34 ls []) := by
      intro n34
      induction n34 with
      | zero => intro y1_34 yvt_drops_34 yvt_tires_34 yvt_now_34 yvt_told_34 H locs ls hP hD hS hl hf; rw [f_X6_court_34] at hf; cases hf
      | succ n34 ih34 =>
        intro y1_34 yvt_drops_34 yvt_tires_34 yvt_now_34 yvt_told_34 H locs ls hP hD hS hl hf
        rw [f_X6_court_34] at hf
        refine lv_iload_n hx hb dX6_court_34 rfl (lv_at hl 0 rfl) ?_
        refine lv_iconst (v := 4) hx hb dX6_court_35 (by decide) ?_
        refine lv_icmp_ge (tgt := 200) hx hb dX6_court_36 (by decide) (fun c3 => ?_) (fun c3 => ?_)
        · replace hf := dg_t c3 hf
          exact ex34 y1_34 yvt_drops_34 yvt_tires_34 yvt_now_34 yvt_told_34 _ _ _ hP hD hS (lv_sub hl [0, 1] rfl) hf
        · replace hf := dg_f c3 hf
          refine lv_iconst (v := 2) hx hb dX6_court_39 (by decide) ?_
          refine lv_bipush (v := 6) hx hb dX6_court_40 (by decide) ?_
          refine lv_iload_n hx hb dX6_court_42 rfl (lv_at hl 0 rfl) ?_
          refine lv_imul hx hb dX6_court_43 ?_
          refine lv_iadd hx hb dX6_court_44 ?_
          refine lv_istore_n (lv' := [(2, .int ((2:Int32) + ((6:Int32) * y1_34))), (1, .int y1_34), (0, .ref ht)]) hx hb dX6_court_45 rfl hl (by decide) rfl (fun ls hl => ?_)
          refine lv_iload_n hx hb dX6_court_46 rfl (lv_at hl 1 rfl) ?_
          refine lv_aload_n hx hb dX6_court_47 rfl (lv_at hl 2 rfl) ?_
          refine va_get (D := (dC, dI)) (ci := 5) (v := .int ((vt_length - (1:Int32)) / (6:Int32))) (C := RX6) (T := TX6) (N := 19) hx hb hts hinX6 hown hK hP 5 rfl rfl 0 (by decide) hw1 (fun _ h9 => h9) rfl dX6_court_48 ?_
          refine lv_icmp_ge (tgt := 58) hx hb dX6_court_51 (by decide) (fun c4 => ?_) (fun c4 => ?_)
          · replace hf := dg_t c4 hf
            refine lv_iconst (v := 0) hx hb dX6_court_58 (by decide) ?_
            refine lv_istore_n (lv' := [(3, .int (0:Int32)), (2, .int ((2:Int32) + ((6:Int32) * y1_34))), (1, .int y1_34), (0, .ref ht)]) hx hb dX6_court_59 rfl hl (by decide) rfl (fun ls hl => ?_)
            refine lv_aload_n hx hb dX6_court_60 rfl (lv_at hl 3 rfl) ?_
            refine va_get (D := (dC, dI)) (ci := 5) (v := .ref ht_drops) (C := RX6) (T := TX6) (N := 19) hx hb hts hinX6 hown hK hP 5 rfl rfl 1 (by decide) hw5 (fun _ h9 => h9) rfl dX6_court_61 ?_
            refine lv_iload_n hx hb dX6_court_64 rfl (lv_at hl 2 rfl) ?_
            refine lv_iload_n hx hb dX6_court_65 rfl (lv_at hl 0 rfl) ?_
            refine lv_if_eq (tgt := 79) hx hb dX6_court_66 (by decide) (fun c5 => ?_) (fun c5 => absurd (by decide) c5)
            refine lv_bipush (v := -9) hx hb dX6_court_79 (by decide) ?_
            obtain ⟨hi6, hf⟩ := dg_ix hf
            refine va_iast hx hb hK hP hD hS 0 0 rfl rfl hi6 dX6_court_81 (fun H locs hP hD hS => ?_)
            have hP : va_P (dC, dI) vwCl [(ht_drops, .inl (cI, 4, .inl (upd yvt_drops_34 y1_34.toNatClampNeg (-9:Int32)))), (ht_tires, .inl (cI, 4, .inl yvt_tires_34)), (ht_now, .inl (cI, 13, .inl yvt_now_34)), (ht_told, .inl (cI, 4, .inl yvt_told_34)), (ht_isKept, .inl (cZ, 2, .inl vt_isKept)), (ht, .inr (5, [.int ((vt_length - (1:Int32)) / (6:Int32)), .ref ht_drops, .ref ht_tires, .ref ht_now, .ref ht_told, .ref ht_text, .int vt_length, .ref ht_pages, .int vt_acts, .int vt_next, .ref ht_row, .int vt_found, .ref ht_alike, .ref ht_table, .ref ht_keys, .ref ht_own, .long vt_seed, .ref ht_isKept, .ref ht_kept])), (ht_text, .inl (cI, 32, .inl vt_text))] H := hP
            have hD : va_D A [(ht_drops, .inl (cI, 4, .inl (upd yvt_drops_34 y1_34.toNatClampNeg (-9:Int32)))), (ht_tires, .inl (cI, 4, .inl yvt_tires_34)), (ht_now, .inl (cI, 13, .inl yvt_now_34)), (ht_told, .inl (cI, 4, .inl yvt_told_34)), (ht_isKept, .inl (cZ, 2, .inl vt_isKept)), (ht, .inr (5, [.int ((vt_length - (1:Int32)) / (6:Int32)), .ref ht_drops, .ref ht_tires, .ref ht_now, .ref ht_told, .ref ht_text, .int vt_length, .ref ht_pages, .int vt_acts, .int vt_next, .ref ht_row, .int vt_found, .ref ht_alike, .ref ht_table, .ref ht_keys, .ref ht_own, .long vt_seed, .ref ht_isKept, .ref ht_kept])), (ht_text, .inl (cI, 32, .inl vt_text))] := hD
            refine lv_aload_n hx hb dX6_court_82 rfl (lv_at hl 3 rfl) ?_
            refine va_get (D := (dC, dI)) (ci := 5) (v := .ref ht_now) (C := RX6) (T := TX6) (N := 19) hx hb hts hinX6 hown hK hP 5 rfl rfl 3 (by decide) hw2 (fun _ h9 => h9) rfl dX6_court_83 ?_
            refine lv_iconst (v := 1) hx hb dX6_court_86 (by decide) ?_
            refine lv_iload_n hx hb dX6_court_87 rfl (lv_at hl 2 rfl) ?_
            refine lv_iadd hx hb dX6_court_88 ?_
            refine lv_iload_n hx hb dX6_court_89 rfl (lv_at hl 0 rfl) ?_
            refine lv_if_eq (tgt := 105) hx hb dX6_court_90 (by decide) (fun c7 => ?_) (fun c7 => absurd (by decide) c7)
            refine lv_bipush (v := -9) hx hb dX6_court_105 (by decide) ?_
            obtain ⟨hi8, hf⟩ := dg_ix hf
            refine va_iast hx hb hK hP hD hS 2 0 rfl rfl hi8 dX6_court_107 (fun H locs hP hD hS => ?_)
            have hP : va_P (dC, dI) vwCl [(ht_drops, .inl (cI, 4, .inl (upd yvt_drops_34 y1_34.toNatClampNeg (-9:Int32)))), (ht_tires, .inl (cI, 4, .inl yvt_tires_34)), (ht_now, .inl (cI, 13, .inl (upd yvt_now_34 ((1:Int32) + y1_34).toNatClampNeg (-9:Int32)))), (ht_told, .inl (cI, 4, .inl yvt_told_34)), (ht_isKept, .inl (cZ, 2, .inl vt_isKept)), (ht, .inr (5, [.int ((vt_length - (1:Int32)) / (6:Int32)), .ref ht_drops, .ref ht_tires, .ref ht_now, .ref ht_told, .ref ht_text, .int vt_length, .ref ht_pages, .int vt_acts, .int vt_next, .ref ht_row, .int vt_found, .ref ht_alike, .ref ht_table, .ref ht_keys, .ref ht_own, .long vt_seed, .ref ht_isKept, .ref ht_kept])), (ht_text, .inl (cI, 32, .inl vt_text))] H := hP
            have hD : va_D A [(ht_drops, .inl (cI, 4, .inl (upd yvt_drops_34 y1_34.toNatClampNeg (-9:Int32)))), (ht_tires, .inl (cI, 4, .inl yvt_tires_34)), (ht_now, .inl (cI, 13, .inl (upd yvt_now_34 ((1:Int32) + y1_34).toNatClampNeg (-9:Int32)))), (ht_told, .inl (cI, 4, .inl yvt_told_34)), (ht_isKept, .inl (cZ, 2, .inl vt_isKept)), (ht, .inr (5, [.int ((vt_length - (1:Int32)) / (6:Int32)), .ref ht_drops, .ref ht_tires, .ref ht_now, .ref ht_told, .ref ht_text, .int vt_length, .ref ht_pages, .int vt_acts, .int vt_next, .ref ht_row, .int vt_found, .ref ht_alike, .ref ht_table, .ref ht_keys, .ref ht_own, .long vt_seed, .ref ht_isKept, .ref ht_kept])), (ht_text, .inl (cI, 32, .inl vt_text))] := hD
            refine lv_aload_n hx hb dX6_court_108 rfl (lv_at hl 3 rfl) ?_
            refine va_get (D := (dC, dI)) (ci := 5) (v := .ref ht_now) (C := RX6) (T := TX6) (N := 19) hx hb hts hinX6 hown hK hP 5 rfl rfl 3 (by decide) hw2 (fun _ h9 => h9) rfl dX6_court_109 ?_
            refine lv_iconst (v := 5) hx hb dX6_court_112 (by decide) ?_
            refine lv_iload_n hx hb dX6_court_113 rfl (lv_at hl 2 rfl) ?_
            refine lv_iadd hx hb dX6_court_114 ?_
            refine lv_iload_n hx hb dX6_court_115 rfl (lv_at hl 0 rfl) ?_
            refine lv_if_eq (tgt := 131) hx hb dX6_court_116 (by decide) (fun c9 => ?_) (fun c9 => absurd (by decide) c9)
            refine lv_bipush (v := -9) hx hb dX6_court_131 (by decide) ?_
            obtain ⟨hi10, hf⟩ := dg_ix hf
            refine va_iast hx hb hK hP hD hS 2 0 rfl rfl hi10 dX6_court_133 (fun H locs hP hD hS => ?_)
            have hP : va_P (dC, dI) vwCl [(ht_drops, .inl (cI, 4, .inl (upd yvt_drops_34 y1_34.toNatClampNeg (-9:Int32)))), (ht_tires, .inl (cI, 4, .inl yvt_tires_34)), (ht_now, .inl (cI, 13, .inl (upd (upd yvt_now_34 ((1:Int32) + y1_34).toNatClampNeg (-9:Int32)) ((5:Int32) + y1_34).toNatClampNeg (-9:Int32)))), (ht_told, .inl (cI, 4, .inl yvt_told_34)), (ht_isKept, .inl (cZ, 2, .inl vt_isKept)), (ht, .inr (5, [.int ((vt_length - (1:Int32)) / (6:Int32)), .ref ht_drops, .ref ht_tires, .ref ht_now, .ref ht_told, .ref ht_text, .int vt_length, .ref ht_pages, .int vt_acts, .int vt_next, .ref ht_row, .int vt_found, .ref ht_alike, .ref ht_table, .ref ht_keys, .ref ht_own, .long vt_seed, .ref ht_isKept, .ref ht_kept])), (ht_text, .inl (cI, 32, .inl vt_text))] H := hP
            have hD : va_D A [(ht_drops, .inl (cI, 4, .inl (upd yvt_drops_34 y1_34.toNatClampNeg (-9:Int32)))), (ht_tires, .inl (cI, 4, .inl yvt_tires_34)), (ht_now, .inl (cI, 13, .inl (upd (upd yvt_now_34 ((1:Int32) + y1_34).toNatClampNeg (-9:Int32)) ((5:Int32) + y1_34).toNatClampNeg (-9:Int32)))), (ht_told, .inl (cI, 4, .inl yvt_told_34)), (ht_isKept, .inl (cZ, 2, .inl vt_isKept)), (ht, .inr (5, [.int ((vt_length - (1:Int32)) / (6:Int32)), .ref ht_drops, .ref ht_tires, .ref ht_now, .ref ht_told, .ref ht_text, .int vt_length, .ref ht_pages, .int vt_acts, .int vt_next, .ref ht_row, .int vt_found, .ref ht_alike, .ref ht_table, .ref ht_keys, .ref ht_own, .long vt_seed, .ref ht_isKept, .ref ht_kept])), (ht_text, .inl (cI, 32, .inl vt_text))] := hD
            refine lv_aload_n hx hb dX6_court_134 rfl (lv_at hl 3 rfl) ?_
            refine va_get (D := (dC, dI)) (ci := 5) (v := .ref ht_tires) (C := RX6) (T := TX6) (N := 19) hx hb hts hinX6 hown hK hP 5 rfl rfl 2 (by decide) hw6 (fun _ h9 => h9) rfl dX6_court_135 ?_
            refine lv_iload_n hx hb dX6_court_138 rfl (lv_at hl 2 rfl) ?_
            refine lv_iload_n hx hb dX6_court_139 rfl (lv_at hl 0 rfl) ?_
            refine lv_if_eq (tgt := 157) hx hb dX6_court_140 (by decide) (fun c11 => ?_) (fun c11 => absurd (by decide) c11)
            refine lv_iconst (v := 0) hx hb dX6_court_157 (by decide) ?_
            obtain ⟨hi12, hf⟩ := dg_ix hf
            refine va_iast hx hb hK hP hD hS 1 0 rfl rfl hi12 dX6_court_158 (fun H locs hP hD hS => ?_)
            have hP : va_P (dC, dI) vwCl [(ht_drops, .inl (cI, 4, .inl (upd yvt_drops_34 y1_34.toNatClampNeg (-9:Int32)))), (ht_tires, .inl (cI, 4, .inl (upd yvt_tires_34 y1_34.toNatClampNeg (0:Int32)))), (ht_now, .inl (cI, 13, .inl (upd (upd yvt_now_34 ((1:Int32) + y1_34).toNatClampNeg (-9:Int32)) ((5:Int32) + y1_34).toNatClampNeg (-9:Int32)))), (ht_told, .inl (cI, 4, .inl yvt_told_34)), (ht_isKept, .inl (cZ, 2, .inl vt_isKept)), (ht, .inr (5, [.int ((vt_length - (1:Int32)) / (6:Int32)), .ref ht_drops, .ref ht_tires, .ref ht_now, .ref ht_told, .ref ht_text, .int vt_length, .ref ht_pages, .int vt_acts, .int vt_next, .ref ht_row, .int vt_found, .ref ht_alike, .ref ht_table, .ref ht_keys, .ref ht_own, .long vt_seed, .ref ht_isKept, .ref ht_kept])), (ht_text, .inl (cI, 32, .inl vt_text))] H := hP
            have hD : va_D A [(ht_drops, .inl (cI, 4, .inl (upd yvt_drops_34 y1_34.toNatClampNeg (-9:Int32)))), (ht_tires, .inl (cI, 4, .inl (upd yvt_tires_34 y1_34.toNatClampNeg (0:Int32)))), (ht_now, .inl (cI, 13, .inl (upd (upd yvt_now_34 ((1:Int32) + y1_34).toNatClampNeg (-9:Int32)) ((5:Int32) + y1_34).toNatClampNeg (-9:Int32)))), (ht_told, .inl (cI, 4, .inl yvt_told_34)), (ht_isKept, .inl (cZ, 2, .inl vt_isKept)), (ht, .inr (5, [.int ((vt_length - (1:Int32)) / (6:Int32)), .ref ht_drops, .ref ht_tires, .ref ht_now, .ref ht_told, .ref ht_text, .int vt_length, .ref ht_pages, .int vt_acts, .int vt_next, .ref ht_row, .int vt_found, .ref ht_alike, .ref ht_table, .ref ht_keys, .ref ht_own, .long vt_seed, .ref ht_isKept, .ref ht_kept])), (ht_text, .inl (cI, 32, .inl vt_text))] := hD
            refine lv_aload_n hx hb dX6_court_159 rfl (lv_at hl 3 rfl) ?_
            refine va_get (D := (dC, dI)) (ci := 5) (v := .ref ht_now) (C := RX6) (T := TX6) (N := 19) hx hb hts hinX6 hown hK hP 5 rfl rfl 3 (by decide) hw2 (fun _ h9 => h9) rfl dX6_court_160 ?_
            refine lv_bipush (v := 9) hx hb dX6_court_163 (by decide) ?_
            refine lv_iload_n hx hb dX6_court_165 rfl (lv_at hl 2 rfl) ?_
            refine lv_iadd hx hb dX6_court_166 ?_
            refine lv_iload_n hx hb dX6_court_167 rfl (lv_at hl 0 rfl) ?_
            refine lv_if_eq (tgt := 183) hx hb dX6_court_168 (by decide) (fun c13 => ?_) (fun c13 => absurd (by decide) c13)
            refine lv_bipush (v := -9) hx hb dX6_court_183 (by decide) ?_
            obtain ⟨hi14, hf⟩ := dg_ix hf
            refine va_iast hx hb hK hP hD hS 2 0 rfl rfl hi14 dX6_court_185 (fun H locs hP hD hS => ?_)
            have hP : va_P (dC, dI) vwCl [(ht_drops, .inl (cI, 4, .inl (upd yvt_drops_34 y1_34.toNatClampNeg (-9:Int32)))), (ht_tires, .inl (cI, 4, .inl (upd yvt_tires_34 y1_34.toNatClampNeg (0:Int32)))), (ht_now, .inl (cI, 13, .inl (upd (upd (upd yvt_now_34 ((1:Int32) + y1_34).toNatClampNeg (-9:Int32)) ((5:Int32) + y1_34).toNatClampNeg (-9:Int32)) ((9:Int32) + y1_34).toNatClampNeg (-9:Int32)))), (ht_told, .inl (cI, 4, .inl yvt_told_34)), (ht_isKept, .inl (cZ, 2, .inl vt_isKept)), (ht, .inr (5, [.int ((vt_length - (1:Int32)) / (6:Int32)), .ref ht_drops, .ref ht_tires, .ref ht_now, .ref ht_told, .ref ht_text, .int vt_length, .ref ht_pages, .int vt_acts, .int vt_next, .ref ht_row, .int vt_found, .ref ht_alike, .ref ht_table, .ref ht_keys, .ref ht_own, .long vt_seed, .ref ht_isKept, .ref ht_kept])), (ht_text, .inl (cI, 32, .inl vt_text))] H := hP
            have hD : va_D A [(ht_drops, .inl (cI, 4, .inl (upd yvt_drops_34 y1_34.toNatClampNeg (-9:Int32)))), (ht_tires, .inl (cI, 4, .inl (upd yvt_tires_34 y1_34.toNatClampNeg (0:Int32)))), (ht_now, .inl (cI, 13, .inl (upd (upd (upd yvt_now_34 ((1:Int32) + y1_34).toNatClampNeg (-9:Int32)) ((5:Int32) + y1_34).toNatClampNeg (-9:Int32)) ((9:Int32) + y1_34).toNatClampNeg (-9:Int32)))), (ht_told, .inl (cI, 4, .inl yvt_told_34)), (ht_isKept, .inl (cZ, 2, .inl vt_isKept)), (ht, .inr (5, [.int ((vt_length - (1:Int32)) / (6:Int32)), .ref ht_drops, .ref ht_tires, .ref ht_now, .ref ht_told, .ref ht_text, .int vt_length, .ref ht_pages, .int vt_acts, .int vt_next, .ref ht_row, .int vt_found, .ref ht_alike, .ref ht_table, .ref ht_keys, .ref ht_own, .long vt_seed, .ref ht_isKept, .ref ht_kept])), (ht_text, .inl (cI, 32, .inl vt_text))] := hD
            refine lv_aload_n hx hb dX6_court_186 rfl (lv_at hl 3 rfl) ?_
            refine va_get (D := (dC, dI)) (ci := 5) (v := .ref ht_told) (C := RX6) (T := TX6) (N := 19) hx hb hts hinX6 hown hK hP 5 rfl rfl 4 (by decide) hw7 (fun _ h9 => h9) rfl dX6_court_187 ?_
            refine lv_iload_n hx hb dX6_court_190 rfl (lv_at hl 2 rfl) ?_
            refine lv_bipush (v := -9) hx hb dX6_court_191 (by decide) ?_
            obtain ⟨hi15, hf⟩ := dg_ix hf
            refine va_iast hx hb hK hP hD hS 3 0 rfl rfl hi15 dX6_court_193 (fun H locs hP hD hS => ?_)
            have hP : va_P (dC, dI) vwCl [(ht_drops, .inl (cI, 4, .inl (upd yvt_drops_34 y1_34.toNatClampNeg (-9:Int32)))), (ht_tires, .inl (cI, 4, .inl (upd yvt_tires_34 y1_34.toNatClampNeg (0:Int32)))), (ht_now, .inl (cI, 13, .inl (upd (upd (upd yvt_now_34 ((1:Int32) + y1_34).toNatClampNeg (-9:Int32)) ((5:Int32) + y1_34).toNatClampNeg (-9:Int32)) ((9:Int32) + y1_34).toNatClampNeg (-9:Int32)))), (ht_told, .inl (cI, 4, .inl (upd yvt_told_34 y1_34.toNatClampNeg (-9:Int32)))), (ht_isKept, .inl (cZ, 2, .inl vt_isKept)), (ht, .inr (5, [.int ((vt_length - (1:Int32)) / (6:Int32)), .ref ht_drops, .ref ht_tires, .ref ht_now, .ref ht_told, .ref ht_text, .int vt_length, .ref ht_pages, .int vt_acts, .int vt_next, .ref ht_row, .int vt_found, .ref ht_alike, .ref ht_table, .ref ht_keys, .ref ht_own, .long vt_seed, .ref ht_isKept, .ref ht_kept])), (ht_text, .inl (cI, 32, .inl vt_text))] H := hP
            have hD : va_D A [(ht_drops, .inl (cI, 4, .inl (upd yvt_drops_34 y1_34.toNatClampNeg (-9:Int32)))), (ht_tires, .inl (cI, 4, .inl (upd yvt_tires_34 y1_34.toNatClampNeg (0:Int32)))), (ht_now, .inl (cI, 13, .inl (upd (upd (upd yvt_now_34 ((1:Int32) + y1_34).toNatClampNeg (-9:Int32)) ((5:Int32) + y1_34).toNatClampNeg (-9:Int32)) ((9:Int32) + y1_34).toNatClampNeg (-9:Int32)))), (ht_told, .inl (cI, 4, .inl (upd yvt_told_34 y1_34.toNatClampNeg (-9:Int32)))), (ht_isKept, .inl (cZ, 2, .inl vt_isKept)), (ht, .inr (5, [.int ((vt_length - (1:Int32)) / (6:Int32)), .ref ht_drops, .ref ht_tires, .ref ht_now, .ref ht_told, .ref ht_text, .int vt_length, .ref ht_pages, .int vt_acts, .int vt_next, .ref ht_row, .int vt_found, .ref ht_alike, .ref ht_table, .ref ht_keys, .ref ht_own, .long vt_seed, .ref ht_isKept, .ref ht_kept])), (ht_text, .inl (cI, 32, .inl vt_text))] := hD
            refine lv_iinc (v := (y1_34 + (1:Int32))) (lv' := [(1, .int (y1_34 + (1:Int32))), (3, .int (0:Int32)), (2, .int ((2:Int32) + ((6:Int32) * y1_34))), (0, .ref ht)]) hx hb dX6_court_194 hl (k := 2) rfl (by first | rfl | decide) (by decide) rfl (fun ls hl => ?_)
            refine lv_goto (tgt := 34) hx hb dX6_court_197 (by decide) ?_
            exact ih34 (y1_34 + (1:Int32)) (upd yvt_drops_34 y1_34.toNatClampNeg (-9:Int32)) (upd yvt_tires_34 y1_34.toNatClampNeg (0:Int32)) (upd (upd (upd yvt_now_34 ((1:Int32) + y1_34).toNatClampNeg (-9:Int32)) ((5:Int32) + y1_34).toNatClampNeg (-9:Int32)) ((9:Int32) + y1_34).toNatClampNeg (-9:Int32)) (upd yvt_told_34 y1_34.toNatClampNeg (-9:Int32)) _ _ _ hP hD hS (lv_sub hl [0, 3] rfl) hf
          · replace hf := dg_f c4 hf
            refine lv_iconst (v := 1) hx hb dX6_court_54 (by decide) ?_
            refine lv_goto (tgt := 59) hx hb dX6_court_55 (by decide) ?_
            refine lv_istore_n (lv' := [(3, .int (1:Int32)), (2, .int ((2:Int32) + ((6:Int32) * y1_34))), (1, .int y1_34), (0, .ref ht)]) hx hb dX6_court_59 rfl hl (by decide) rfl (fun ls hl => ?_)
            refine lv_aload_n hx hb dX6_court_60 rfl (lv_at hl 3 rfl) ?_
            refine va_get (D := (dC, dI)) (ci := 5) (v := .ref ht_drops) (C := RX6) (T := TX6) (N := 19) hx hb hts hinX6 hown hK hP 5 rfl rfl 1 (by decide) hw5 (fun _ h9 => h9) rfl dX6_court_61 ?_
            refine lv_iload_n hx hb dX6_court_64 rfl (lv_at hl 2 rfl) ?_
            refine lv_iload_n hx hb dX6_court_65 rfl (lv_at hl 0 rfl) ?_
            refine lv_if_eq (tgt := 79) hx hb dX6_court_66 (by decide) (fun c16 => absurd c16 (by decide)) (fun c16 => ?_)
            refine lv_aload_n hx hb dX6_court_69 rfl (lv_at hl 3 rfl) ?_
            refine lv_iload_n hx hb dX6_court_70 rfl (lv_at hl 1 rfl) ?_
            refine lv_bipush (v := 97) hx hb dX6_court_71 (by decide) ?_
            obtain ⟨x17, hx17, hf⟩ := dg_bind hf
            have hPc : va_P (dC, dI) vwCl [(ht, .inr (5, [.int ((vt_length - (1:Int32)) / (6:Int32)), .ref ht_drops, .ref ht_tires, .ref ht_now, .ref ht_told, .ref ht_text, .int vt_length, .ref ht_pages, .int vt_acts, .int vt_next, .ref ht_row, .int vt_found, .ref ht_alike, .ref ht_table, .ref ht_keys, .ref ht_own, .long vt_seed, .ref ht_isKept, .ref ht_kept])), (ht_text, .inl (cI, 32, .inl vt_text))] H := hP.sub [5, 6] rfl
            have hDc : va_D A [(ht, .inr (5, [.int ((vt_length - (1:Int32)) / (6:Int32)), .ref ht_drops, .ref ht_tires, .ref ht_now, .ref ht_told, .ref ht_text, .int vt_length, .ref ht_pages, .int vt_acts, .int vt_next, .ref ht_row, .int vt_found, .ref ht_alike, .ref ht_table, .ref ht_keys, .ref ht_own, .long vt_seed, .ref ht_isKept, .ref ht_kept])), (ht_text, .inl (cI, 32, .inl vt_text))] := hD.sub [5, 6] (by decide) rfl
            have hFc := va_free (wc := [(ht, .inr (5, [.int ((vt_length - (1:Int32)) / (6:Int32)), .ref ht_drops, .ref ht_tires, .ref ht_now, .ref ht_told, .ref ht_text, .int vt_length, .ref ht_pages, .int vt_acts, .int vt_next, .ref ht_row, .int vt_found, .ref ht_alike, .ref ht_table, .ref ht_keys, .ref ht_own, .long vt_seed, .ref ht_isKept, .ref ht_kept])), (ht_text, .inl (cI, 32, .inl vt_text))]) hD hS hA [5, 6] rfl
            refine va_calli (va_runV (As := [.int ((2:Int32) + ((6:Int32) * y1_34)), .int (97:Int32)]) (rest := [.int y1_34, .ref ht_drops]) ⟨hx, hb, hml, hown, hts⟩ (k_X6_sign l dC dI cI cJ cZ H.size ht ht_drops ht_tires ht_now ht_told ht_text ht_pages ht_row ht_alike ht_table ht_keys ht_own ht_isKept ht_kept ((2:Int32) + ((6:Int32) * y1_34)) (97:Int32) ((vt_length - (1:Int32)) / (6:Int32)) vt_length vt_acts vt_next vt_found vt_seed vt_text N x17 hx17) (cwV 2 hts gX6_court_X6_sign rfl rfl rfl hd_X6_sign ⟨Nat.le_of_ble_eq_true rfl, Nat.le_of_ble_eq_true rfl⟩) ⟨blind_pc, va_recv hK hPc (ci := 5) (q0 := 0) rfl rfl, pre_pc hPc hK hDc⟩ rfl rfl hl.1 rfl (lv_room (Nat.le_of_ble_eq_true rfl)) dX6_court_73 ⟨Nat.zero_le _, Nat.zero_le _⟩) hS (fun q _ h => hFc q h) hFc (fun r u t H1 locs eth hvm hw hB hz1 hk1 hS => ?_)
            obtain ⟨hP1, hK1, hD1⟩ := hB
            rw [eth] at hP1
            subst hw
            obtain ⟨hP, hD⟩ := va_join (wr := [(ht_drops, .inl (cI, 4, .inl yvt_drops_34)), (ht_tires, .inl (cI, 4, .inl yvt_tires_34)), (ht_now, .inl (cI, 13, .inl yvt_now_34)), (ht_told, .inl (cI, 4, .inl yvt_told_34)), (ht_isKept, .inl (cZ, 2, .inl vt_isKept))]) (w1 := [(ht, .inr (5, [.int ((vt_length - (1:Int32)) / (6:Int32)), .ref ht_drops, .ref ht_tires, .ref ht_now, .ref ht_told, .ref ht_text, .int vt_length, .ref ht_pages, .int vt_acts, .int vt_next, .ref ht_row, .int vt_found, .ref ht_alike, .ref ht_table, .ref ht_keys, .ref ht_own, .long vt_seed, .ref ht_isKept, .ref ht_kept])), (ht_text, .inl (cI, 32, .inl vt_text))]) hP hD [5, 6] [0, 1, 2, 3, 4] rfl rfl (by decide) (by decide) hk1 hFc hP1 hD1
            clear hP1 hK1 hD1 hPc hDc hFc hk1 hz1 hvm eth
            generalize H1 = H at hP hS ⊢
            have hP : va_P (dC, dI) vwCl [(ht_drops, .inl (cI, 4, .inl yvt_drops_34)), (ht_tires, .inl (cI, 4, .inl yvt_tires_34)), (ht_now, .inl (cI, 13, .inl yvt_now_34)), (ht_told, .inl (cI, 4, .inl yvt_told_34)), (ht_isKept, .inl (cZ, 2, .inl vt_isKept)), (ht, .inr (5, [.int ((vt_length - (1:Int32)) / (6:Int32)), .ref ht_drops, .ref ht_tires, .ref ht_now, .ref ht_told, .ref ht_text, .int vt_length, .ref ht_pages, .int vt_acts, .int vt_next, .ref ht_row, .int vt_found, .ref ht_alike, .ref ht_table, .ref ht_keys, .ref ht_own, .long vt_seed, .ref ht_isKept, .ref ht_kept])), (ht_text, .inl (cI, 32, .inl vt_text))] H := hP
            have hD : va_D A [(ht_drops, .inl (cI, 4, .inl yvt_drops_34)), (ht_tires, .inl (cI, 4, .inl yvt_tires_34)), (ht_now, .inl (cI, 13, .inl yvt_now_34)), (ht_told, .inl (cI, 4, .inl yvt_told_34)), (ht_isKept, .inl (cZ, 2, .inl vt_isKept)), (ht, .inr (5, [.int ((vt_length - (1:Int32)) / (6:Int32)), .ref ht_drops, .ref ht_tires, .ref ht_now, .ref ht_told, .ref ht_text, .int vt_length, .ref ht_pages, .int vt_acts, .int vt_next, .ref ht_row, .int vt_found, .ref ht_alike, .ref ht_table, .ref ht_keys, .ref ht_own, .long vt_seed, .ref ht_isKept, .ref ht_kept])), (ht_text, .inl (cI, 32, .inl vt_text))] := hD
            refine lv_goto (tgt := 81) hx hb dX6_court_76 (by decide) ?_
            obtain ⟨hi18, hf⟩ := dg_ix hf
            refine va_iast hx hb hK hP hD hS 0 0 rfl rfl hi18 dX6_court_81 (fun H locs hP hD hS => ?_)
            have hP : va_P (dC, dI) vwCl [(ht_drops, .inl (cI, 4, .inl (upd yvt_drops_34 y1_34.toNatClampNeg x17))), (ht_tires, .inl (cI, 4, .inl yvt_tires_34)), (ht_now, .inl (cI, 13, .inl yvt_now_34)), (ht_told, .inl (cI, 4, .inl yvt_told_34)), (ht_isKept, .inl (cZ, 2, .inl vt_isKept)), (ht, .inr (5, [.int ((vt_length - (1:Int32)) / (6:Int32)), .ref ht_drops, .ref ht_tires, .ref ht_now, .ref ht_told, .ref ht_text, .int vt_length, .ref ht_pages, .int vt_acts, .int vt_next, .ref ht_row, .int vt_found, .ref ht_alike, .ref ht_table, .ref ht_keys, .ref ht_own, .long vt_seed, .ref ht_isKept, .ref ht_kept])), (ht_text, .inl (cI, 32, .inl vt_text))] H := hP
            have hD : va_D A [(ht_drops, .inl (cI, 4, .inl (upd yvt_drops_34 y1_34.toNatClampNeg x17))), (ht_tires, .inl (cI, 4, .inl yvt_tires_34)), (ht_now, .inl (cI, 13, .inl yvt_now_34)), (ht_told, .inl (cI, 4, .inl yvt_told_34)), (ht_isKept, .inl (cZ, 2, .inl vt_isKept)), (ht, .inr (5, [.int ((vt_length - (1:Int32)) / (6:Int32)), .ref ht_drops, .ref ht_tires, .ref ht_now, .ref ht_told, .ref ht_text, .int vt_length, .ref ht_pages, .int vt_acts, .int vt_next, .ref ht_row, .int vt_found, .ref ht_alike, .ref ht_table, .ref ht_keys, .ref ht_own, .long vt_seed, .ref ht_isKept, .ref ht_kept])), (ht_text, .inl (cI, 32, .inl vt_text))] := hD
            refine lv_aload_n hx hb dX6_court_82 rfl (lv_at hl 3 rfl) ?_
            refine va_get (D := (dC, dI)) (ci := 5) (v := .ref ht_now) (C := RX6) (T := TX6) (N := 19) hx hb hts hinX6 hown hK hP 5 rfl rfl 3 (by decide) hw2 (fun _ h9 => h9) rfl dX6_court_83 ?_
            refine lv_iconst (v := 1) hx hb dX6_court_86 (by decide) ?_
            refine lv_iload_n hx hb dX6_court_87 rfl (lv_at hl 2 rfl) ?_
            refine lv_iadd hx hb dX6_court_88 ?_
            refine lv_iload_n hx hb dX6_court_89 rfl (lv_at hl 0 rfl) ?_
            refine lv_if_eq (tgt := 105) hx hb dX6_court_90 (by decide) (fun c19 => absurd c19 (by decide)) (fun c19 => ?_)
            refine lv_aload_n hx hb dX6_court_93 rfl (lv_at hl 3 rfl) ?_
            refine lv_iload_n hx hb dX6_court_94 rfl (lv_at hl 1 rfl) ?_
            refine lv_iconst (v := 1) hx hb dX6_court_95 (by decide) ?_
            refine lv_iadd hx hb dX6_court_96 ?_
            refine lv_bipush (v := 97) hx hb dX6_court_97 (by decide) ?_
            obtain ⟨x20, hx20, hf⟩ := dg_bind hf
            have hPc : va_P (dC, dI) vwCl [(ht, .inr (5, [.int ((vt_length - (1:Int32)) / (6:Int32)), .ref ht_drops, .ref ht_tires, .ref ht_now, .ref ht_told, .ref ht_text, .int vt_length, .ref ht_pages, .int vt_acts, .int vt_next, .ref ht_row, .int vt_found, .ref ht_alike, .ref ht_table, .ref ht_keys, .ref ht_own, .long vt_seed, .ref ht_isKept, .ref ht_kept])), (ht_text, .inl (cI, 32, .inl vt_text))] H := hP.sub [5, 6] rfl
            have hDc : va_D A [(ht, .inr (5, [.int ((vt_length - (1:Int32)) / (6:Int32)), .ref ht_drops, .ref ht_tires, .ref ht_now, .ref ht_told, .ref ht_text, .int vt_length, .ref ht_pages, .int vt_acts, .int vt_next, .ref ht_row, .int vt_found, .ref ht_alike, .ref ht_table, .ref ht_keys, .ref ht_own, .long vt_seed, .ref ht_isKept, .ref ht_kept])), (ht_text, .inl (cI, 32, .inl vt_text))] := hD.sub [5, 6] (by decide) rfl
            have hFc := va_free (wc := [(ht, .inr (5, [.int ((vt_length - (1:Int32)) / (6:Int32)), .ref ht_drops, .ref ht_tires, .ref ht_now, .ref ht_told, .ref ht_text, .int vt_length, .ref ht_pages, .int vt_acts, .int vt_next, .ref ht_row, .int vt_found, .ref ht_alike, .ref ht_table, .ref ht_keys, .ref ht_own, .long vt_seed, .ref ht_isKept, .ref ht_kept])), (ht_text, .inl (cI, 32, .inl vt_text))]) hD hS hA [5, 6] rfl
            refine va_calli (va_runV (As := [.int (((2:Int32) + ((6:Int32) * y1_34)) + (1:Int32)), .int (97:Int32)]) (rest := [.int ((1:Int32) + y1_34), .ref ht_now]) ⟨hx, hb, hml, hown, hts⟩ (k_X6_sign l dC dI cI cJ cZ H.size ht ht_drops ht_tires ht_now ht_told ht_text ht_pages ht_row ht_alike ht_table ht_keys ht_own ht_isKept ht_kept (((2:Int32) + ((6:Int32) * y1_34)) + (1:Int32)) (97:Int32) ((vt_length - (1:Int32)) / (6:Int32)) vt_length vt_acts vt_next vt_found vt_seed vt_text N x20 hx20) (cwV 2 hts gX6_court_X6_sign rfl rfl rfl hd_X6_sign ⟨Nat.le_of_ble_eq_true rfl, Nat.le_of_ble_eq_true rfl⟩) ⟨blind_pc, va_recv hK hPc (ci := 5) (q0 := 0) rfl rfl, pre_pc hPc hK hDc⟩ rfl rfl hl.1 rfl (lv_room (Nat.le_of_ble_eq_true rfl)) dX6_court_99 ⟨Nat.zero_le _, Nat.zero_le _⟩) hS (fun q _ h => hFc q h) hFc (fun r u t H1 locs eth hvm hw hB hz1 hk1 hS => ?_)
            obtain ⟨hP1, hK1, hD1⟩ := hB
            rw [eth] at hP1
            subst hw
            obtain ⟨hP, hD⟩ := va_join (wr := [(ht_drops, .inl (cI, 4, .inl (upd yvt_drops_34 y1_34.toNatClampNeg x17))), (ht_tires, .inl (cI, 4, .inl yvt_tires_34)), (ht_now, .inl (cI, 13, .inl yvt_now_34)), (ht_told, .inl (cI, 4, .inl yvt_told_34)), (ht_isKept, .inl (cZ, 2, .inl vt_isKept))]) (w1 := [(ht, .inr (5, [.int ((vt_length - (1:Int32)) / (6:Int32)), .ref ht_drops, .ref ht_tires, .ref ht_now, .ref ht_told, .ref ht_text, .int vt_length, .ref ht_pages, .int vt_acts, .int vt_next, .ref ht_row, .int vt_found, .ref ht_alike, .ref ht_table, .ref ht_keys, .ref ht_own, .long vt_seed, .ref ht_isKept, .ref ht_kept])), (ht_text, .inl (cI, 32, .inl vt_text))]) hP hD [5, 6] [0, 1, 2, 3, 4] rfl rfl (by decide) (by decide) hk1 hFc hP1 hD1
            clear hP1 hK1 hD1 hPc hDc hFc hk1 hz1 hvm eth
            generalize H1 = H at hP hS ⊢
            have hP : va_P (dC, dI) vwCl [(ht_drops, .inl (cI, 4, .inl (upd yvt_drops_34 y1_34.toNatClampNeg x17))), (ht_tires, .inl (cI, 4, .inl yvt_tires_34)), (ht_now, .inl (cI, 13, .inl yvt_now_34)), (ht_told, .inl (cI, 4, .inl yvt_told_34)), (ht_isKept, .inl (cZ, 2, .inl vt_isKept)), (ht, .inr (5, [.int ((vt_length - (1:Int32)) / (6:Int32)), .ref ht_drops, .ref ht_tires, .ref ht_now, .ref ht_told, .ref ht_text, .int vt_length, .ref ht_pages, .int vt_acts, .int vt_next, .ref ht_row, .int vt_found, .ref ht_alike, .ref ht_table, .ref ht_keys, .ref ht_own, .long vt_seed, .ref ht_isKept, .ref ht_kept])), (ht_text, .inl (cI, 32, .inl vt_text))] H := hP
            have hD : va_D A [(ht_drops, .inl (cI, 4, .inl (upd yvt_drops_34 y1_34.toNatClampNeg x17))), (ht_tires, .inl (cI, 4, .inl yvt_tires_34)), (ht_now, .inl (cI, 13, .inl yvt_now_34)), (ht_told, .inl (cI, 4, .inl yvt_told_34)), (ht_isKept, .inl (cZ, 2, .inl vt_isKept)), (ht, .inr (5, [.int ((vt_length - (1:Int32)) / (6:Int32)), .ref ht_drops, .ref ht_tires, .ref ht_now, .ref ht_told, .ref ht_text, .int vt_length, .ref ht_pages, .int vt_acts, .int vt_next, .ref ht_row, .int vt_found, .ref ht_alike, .ref ht_table, .ref ht_keys, .ref ht_own, .long vt_seed, .ref ht_isKept, .ref ht_kept])), (ht_text, .inl (cI, 32, .inl vt_text))] := hD
            refine lv_goto (tgt := 107) hx hb dX6_court_102 (by decide) ?_
            obtain ⟨hi21, hf⟩ := dg_ix hf
            refine va_iast hx hb hK hP hD hS 2 0 rfl rfl hi21 dX6_court_107 (fun H locs hP hD hS => ?_)
            have hP : va_P (dC, dI) vwCl [(ht_drops, .inl (cI, 4, .inl (upd yvt_drops_34 y1_34.toNatClampNeg x17))), (ht_tires, .inl (cI, 4, .inl yvt_tires_34)), (ht_now, .inl (cI, 13, .inl (upd yvt_now_34 ((1:Int32) + y1_34).toNatClampNeg x20))), (ht_told, .inl (cI, 4, .inl yvt_told_34)), (ht_isKept, .inl (cZ, 2, .inl vt_isKept)), (ht, .inr (5, [.int ((vt_length - (1:Int32)) / (6:Int32)), .ref ht_drops, .ref ht_tires, .ref ht_now, .ref ht_told, .ref ht_text, .int vt_length, .ref ht_pages, .int vt_acts, .int vt_next, .ref ht_row, .int vt_found, .ref ht_alike, .ref ht_table, .ref ht_keys, .ref ht_own, .long vt_seed, .ref ht_isKept, .ref ht_kept])), (ht_text, .inl (cI, 32, .inl vt_text))] H := hP
            have hD : va_D A [(ht_drops, .inl (cI, 4, .inl (upd yvt_drops_34 y1_34.toNatClampNeg x17))), (ht_tires, .inl (cI, 4, .inl yvt_tires_34)), (ht_now, .inl (cI, 13, .inl (upd yvt_now_34 ((1:Int32) + y1_34).toNatClampNeg x20))), (ht_told, .inl (cI, 4, .inl yvt_told_34)), (ht_isKept, .inl (cZ, 2, .inl vt_isKept)), (ht, .inr (5, [.int ((vt_length - (1:Int32)) / (6:Int32)), .ref ht_drops, .ref ht_tires, .ref ht_now, .ref ht_told, .ref ht_text, .int vt_length, .ref ht_pages, .int vt_acts, .int vt_next, .ref ht_row, .int vt_found, .ref ht_alike, .ref ht_table, .ref ht_keys, .ref ht_own, .long vt_seed, .ref ht_isKept, .ref ht_kept])), (ht_text, .inl (cI, 32, .inl vt_text))] := hD
            refine lv_aload_n hx hb dX6_court_108 rfl (lv_at hl 3 rfl) ?_
            refine va_get (D := (dC, dI)) (ci := 5) (v := .ref ht_now) (C := RX6) (T := TX6) (N := 19) hx hb hts hinX6 hown hK hP 5 rfl rfl 3 (by decide) hw2 (fun _ h9 => h9) rfl dX6_court_109 ?_
            refine lv_iconst (v := 5) hx hb dX6_court_112 (by decide) ?_
            refine lv_iload_n hx hb dX6_court_113 rfl (lv_at hl 2 rfl) ?_
            refine lv_iadd hx hb dX6_court_114 ?_
            refine lv_iload_n hx hb dX6_court_115 rfl (lv_at hl 0 rfl) ?_
            refine lv_if_eq (tgt := 131) hx hb dX6_court_116 (by decide) (fun c22 => absurd c22 (by decide)) (fun c22 => ?_)
            refine lv_aload_n hx hb dX6_court_119 rfl (lv_at hl 3 rfl) ?_
            refine lv_iload_n hx hb dX6_court_120 rfl (lv_at hl 1 rfl) ?_
            refine lv_iconst (v := 2) hx hb dX6_court_121 (by decide) ?_
            refine lv_iadd hx hb dX6_court_122 ?_
            refine lv_bipush (v := 97) hx hb dX6_court_123 (by decide) ?_
            obtain ⟨x23, hx23, hf⟩ := dg_bind hf
            have hPc : va_P (dC, dI) vwCl [(ht, .inr (5, [.int ((vt_length - (1:Int32)) / (6:Int32)), .ref ht_drops, .ref ht_tires, .ref ht_now, .ref ht_told, .ref ht_text, .int vt_length, .ref ht_pages, .int vt_acts, .int vt_next, .ref ht_row, .int vt_found, .ref ht_alike, .ref ht_table, .ref ht_keys, .ref ht_own, .long vt_seed, .ref ht_isKept, .ref ht_kept])), (ht_text, .inl (cI, 32, .inl vt_text))] H := hP.sub [5, 6] rfl
            have hDc : va_D A [(ht, .inr (5, [.int ((vt_length - (1:Int32)) / (6:Int32)), .ref ht_drops, .ref ht_tires, .ref ht_now, .ref ht_told, .ref ht_text, .int vt_length, .ref ht_pages, .int vt_acts, .int vt_next, .ref ht_row, .int vt_found, .ref ht_alike, .ref ht_table, .ref ht_keys, .ref ht_own, .long vt_seed, .ref ht_isKept, .ref ht_kept])), (ht_text, .inl (cI, 32, .inl vt_text))] := hD.sub [5, 6] (by decide) rfl
            have hFc := va_free (wc := [(ht, .inr (5, [.int ((vt_length - (1:Int32)) / (6:Int32)), .ref ht_drops, .ref ht_tires, .ref ht_now, .ref ht_told, .ref ht_text, .int vt_length, .ref ht_pages, .int vt_acts, .int vt_next, .ref ht_row, .int vt_found, .ref ht_alike, .ref ht_table, .ref ht_keys, .ref ht_own, .long vt_seed, .ref ht_isKept, .ref ht_kept])), (ht_text, .inl (cI, 32, .inl vt_text))]) hD hS hA [5, 6] rfl
            refine va_calli (va_runV (As := [.int (((2:Int32) + ((6:Int32) * y1_34)) + (2:Int32)), .int (97:Int32)]) (rest := [.int ((5:Int32) + y1_34), .ref ht_now]) ⟨hx, hb, hml, hown, hts⟩ (k_X6_sign l dC dI cI cJ cZ H.size ht ht_drops ht_tires ht_now ht_told ht_text ht_pages ht_row ht_alike ht_table ht_keys ht_own ht_isKept ht_kept (((2:Int32) + ((6:Int32) * y1_34)) + (2:Int32)) (97:Int32) ((vt_length - (1:Int32)) / (6:Int32)) vt_length vt_acts vt_next vt_found vt_seed vt_text N x23 hx23) (cwV 2 hts gX6_court_X6_sign rfl rfl rfl hd_X6_sign ⟨Nat.le_of_ble_eq_true rfl, Nat.le_of_ble_eq_true rfl⟩) ⟨blind_pc, va_recv hK hPc (ci := 5) (q0 := 0) rfl rfl, pre_pc hPc hK hDc⟩ rfl rfl hl.1 rfl (lv_room (Nat.le_of_ble_eq_true rfl)) dX6_court_125 ⟨Nat.zero_le _, Nat.zero_le _⟩) hS (fun q _ h => hFc q h) hFc (fun r u t H1 locs eth hvm hw hB hz1 hk1 hS => ?_)
            obtain ⟨hP1, hK1, hD1⟩ := hB
            rw [eth] at hP1
            subst hw
            obtain ⟨hP, hD⟩ := va_join (wr := [(ht_drops, .inl (cI, 4, .inl (upd yvt_drops_34 y1_34.toNatClampNeg x17))), (ht_tires, .inl (cI, 4, .inl yvt_tires_34)), (ht_now, .inl (cI, 13, .inl (upd yvt_now_34 ((1:Int32) + y1_34).toNatClampNeg x20))), (ht_told, .inl (cI, 4, .inl yvt_told_34)), (ht_isKept, .inl (cZ, 2, .inl vt_isKept))]) (w1 := [(ht, .inr (5, [.int ((vt_length - (1:Int32)) / (6:Int32)), .ref ht_drops, .ref ht_tires, .ref ht_now, .ref ht_told, .ref ht_text, .int vt_length, .ref ht_pages, .int vt_acts, .int vt_next, .ref ht_row, .int vt_found, .ref ht_alike, .ref ht_table, .ref ht_keys, .ref ht_own, .long vt_seed, .ref ht_isKept, .ref ht_kept])), (ht_text, .inl (cI, 32, .inl vt_text))]) hP hD [5, 6] [0, 1, 2, 3, 4] rfl rfl (by decide) (by decide) hk1 hFc hP1 hD1
            clear hP1 hK1 hD1 hPc hDc hFc hk1 hz1 hvm eth
            generalize H1 = H at hP hS ⊢
            have hP : va_P (dC, dI) vwCl [(ht_drops, .inl (cI, 4, .inl (upd yvt_drops_34 y1_34.toNatClampNeg x17))), (ht_tires, .inl (cI, 4, .inl yvt_tires_34)), (ht_now, .inl (cI, 13, .inl (upd yvt_now_34 ((1:Int32) + y1_34).toNatClampNeg x20))), (ht_told, .inl (cI, 4, .inl yvt_told_34)), (ht_isKept, .inl (cZ, 2, .inl vt_isKept)), (ht, .inr (5, [.int ((vt_length - (1:Int32)) / (6:Int32)), .ref ht_drops, .ref ht_tires, .ref ht_now, .ref ht_told, .ref ht_text, .int vt_length, .ref ht_pages, .int vt_acts, .int vt_next, .ref ht_row, .int vt_found, .ref ht_alike, .ref ht_table, .ref ht_keys, .ref ht_own, .long vt_seed, .ref ht_isKept, .ref ht_kept])), (ht_text, .inl (cI, 32, .inl vt_text))] H := hP
            have hD : va_D A [(ht_drops, .inl (cI, 4, .inl (upd yvt_drops_34 y1_34.toNatClampNeg x17))), (ht_tires, .inl (cI, 4, .inl yvt_tires_34)), (ht_now, .inl (cI, 13, .inl (upd yvt_now_34 ((1:Int32) + y1_34).toNatClampNeg x20))), (ht_told, .inl (cI, 4, .inl yvt_told_34)), (ht_isKept, .inl (cZ, 2, .inl vt_isKept)), (ht, .inr (5, [.int ((vt_length - (1:Int32)) / (6:Int32)), .ref ht_drops, .ref ht_tires, .ref ht_now, .ref ht_told, .ref ht_text, .int vt_length, .ref ht_pages, .int vt_acts, .int vt_next, .ref ht_row, .int vt_found, .ref ht_alike, .ref ht_table, .ref ht_keys, .ref ht_own, .long vt_seed, .ref ht_isKept, .ref ht_kept])), (ht_text, .inl (cI, 32, .inl vt_text))] := hD
            refine lv_goto (tgt := 133) hx hb dX6_court_128 (by decide) ?_
            obtain ⟨hi24, hf⟩ := dg_ix hf
            refine va_iast hx hb hK hP hD hS 2 0 rfl rfl hi24 dX6_court_133 (fun H locs hP hD hS => ?_)
            have hP : va_P (dC, dI) vwCl [(ht_drops, .inl (cI, 4, .inl (upd yvt_drops_34 y1_34.toNatClampNeg x17))), (ht_tires, .inl (cI, 4, .inl yvt_tires_34)), (ht_now, .inl (cI, 13, .inl (upd (upd yvt_now_34 ((1:Int32) + y1_34).toNatClampNeg x20) ((5:Int32) + y1_34).toNatClampNeg x23))), (ht_told, .inl (cI, 4, .inl yvt_told_34)), (ht_isKept, .inl (cZ, 2, .inl vt_isKept)), (ht, .inr (5, [.int ((vt_length - (1:Int32)) / (6:Int32)), .ref ht_drops, .ref ht_tires, .ref ht_now, .ref ht_told, .ref ht_text, .int vt_length, .ref ht_pages, .int vt_acts, .int vt_next, .ref ht_row, .int vt_found, .ref ht_alike, .ref ht_table, .ref ht_keys, .ref ht_own, .long vt_seed, .ref ht_isKept, .ref ht_kept])), (ht_text, .inl (cI, 32, .inl vt_text))] H := hP
            have hD : va_D A [(ht_drops, .inl (cI, 4, .inl (upd yvt_drops_34 y1_34.toNatClampNeg x17))), (ht_tires, .inl (cI, 4, .inl yvt_tires_34)), (ht_now, .inl (cI, 13, .inl (upd (upd yvt_now_34 ((1:Int32) + y1_34).toNatClampNeg x20) ((5:Int32) + y1_34).toNatClampNeg x23))), (ht_told, .inl (cI, 4, .inl yvt_told_34)), (ht_isKept, .inl (cZ, 2, .inl vt_isKept)), (ht, .inr (5, [.int ((vt_length - (1:Int32)) / (6:Int32)), .ref ht_drops, .ref ht_tires, .ref ht_now, .ref ht_told, .ref ht_text, .int vt_length, .ref ht_pages, .int vt_acts, .int vt_next, .ref ht_row, .int vt_found, .ref ht_alike, .ref ht_table, .ref ht_keys, .ref ht_own, .long vt_seed, .ref ht_isKept, .ref ht_kept])), (ht_text, .inl (cI, 32, .inl vt_text))] := hD
            refine lv_aload_n hx hb dX6_court_134 rfl (lv_at hl 3 rfl) ?_
            refine va_get (D := (dC, dI)) (ci := 5) (v := .ref ht_tires) (C := RX6) (T := TX6) (N := 19) hx hb hts hinX6 hown hK hP 5 rfl rfl 2 (by decide) hw6 (fun _ h9 => h9) rfl dX6_court_135 ?_
            refine lv_iload_n hx hb dX6_court_138 rfl (lv_at hl 2 rfl) ?_
            refine lv_iload_n hx hb dX6_court_139 rfl (lv_at hl 0 rfl) ?_
            refine lv_if_eq (tgt := 157) hx hb dX6_court_140 (by decide) (fun c25 => absurd c25 (by decide)) (fun c25 => ?_)
            refine lv_aload_n hx hb dX6_court_143 rfl (lv_at hl 3 rfl) ?_
            refine va_get (D := (dC, dI)) (ci := 5) (v := .ref ht_text) (C := RX6) (T := TX6) (N := 19) hx hb hts hinX6 hown hK hP 5 rfl rfl 5 (by decide) hw8 (fun _ h9 => h9) rfl dX6_court_144 ?_
            refine lv_iload_n hx hb dX6_court_147 rfl (lv_at hl 1 rfl) ?_
            refine lv_iconst (v := 3) hx hb dX6_court_148 (by decide) ?_
            refine lv_iadd hx hb dX6_court_149 ?_
            obtain ⟨hi26, hf⟩ := dg_ix hf
            refine va_iald hx hb hK hP 6 0 rfl rfl hi26 dX6_court_150 ?_
            refine lv_bipush (v := 48) hx hb dX6_court_151 (by decide) ?_
            refine lv_isub hx hb dX6_court_153 ?_
            refine lv_goto (tgt := 158) hx hb dX6_court_154 (by decide) ?_
            obtain ⟨hi27, hf⟩ := dg_ix hf
            refine va_iast hx hb hK hP hD hS 1 0 rfl rfl hi27 dX6_court_158 (fun H locs hP hD hS => ?_)
            have hP : va_P (dC, dI) vwCl [(ht_drops, .inl (cI, 4, .inl (upd yvt_drops_34 y1_34.toNatClampNeg x17))), (ht_tires, .inl (cI, 4, .inl (upd yvt_tires_34 y1_34.toNatClampNeg ((vt_text (((2:Int32) + ((6:Int32) * y1_34)) + (3:Int32)).toNatClampNeg) - (48:Int32))))), (ht_now, .inl (cI, 13, .inl (upd (upd yvt_now_34 ((1:Int32) + y1_34).toNatClampNeg x20) ((5:Int32) + y1_34).toNatClampNeg x23))), (ht_told, .inl (cI, 4, .inl yvt_told_34)), (ht_isKept, .inl (cZ, 2, .inl vt_isKept)), (ht, .inr (5, [.int ((vt_length - (1:Int32)) / (6:Int32)), .ref ht_drops, .ref ht_tires, .ref ht_now, .ref ht_told, .ref ht_text, .int vt_length, .ref ht_pages, .int vt_acts, .int vt_next, .ref ht_row, .int vt_found, .ref ht_alike, .ref ht_table, .ref ht_keys, .ref ht_own, .long vt_seed, .ref ht_isKept, .ref ht_kept])), (ht_text, .inl (cI, 32, .inl vt_text))] H := hP
            have hD : va_D A [(ht_drops, .inl (cI, 4, .inl (upd yvt_drops_34 y1_34.toNatClampNeg x17))), (ht_tires, .inl (cI, 4, .inl (upd yvt_tires_34 y1_34.toNatClampNeg ((vt_text (((2:Int32) + ((6:Int32) * y1_34)) + (3:Int32)).toNatClampNeg) - (48:Int32))))), (ht_now, .inl (cI, 13, .inl (upd (upd yvt_now_34 ((1:Int32) + y1_34).toNatClampNeg x20) ((5:Int32) + y1_34).toNatClampNeg x23))), (ht_told, .inl (cI, 4, .inl yvt_told_34)), (ht_isKept, .inl (cZ, 2, .inl vt_isKept)), (ht, .inr (5, [.int ((vt_length - (1:Int32)) / (6:Int32)), .ref ht_drops, .ref ht_tires, .ref ht_now, .ref ht_told, .ref ht_text, .int vt_length, .ref ht_pages, .int vt_acts, .int vt_next, .ref ht_row, .int vt_found, .ref ht_alike, .ref ht_table, .ref ht_keys, .ref ht_own, .long vt_seed, .ref ht_isKept, .ref ht_kept])), (ht_text, .inl (cI, 32, .inl vt_text))] := hD
            refine lv_aload_n hx hb dX6_court_159 rfl (lv_at hl 3 rfl) ?_
            refine va_get (D := (dC, dI)) (ci := 5) (v := .ref ht_now) (C := RX6) (T := TX6) (N := 19) hx hb hts hinX6 hown hK hP 5 rfl rfl 3 (by decide) hw2 (fun _ h9 => h9) rfl dX6_court_160 ?_
            refine lv_bipush (v := 9) hx hb dX6_court_163 (by decide) ?_
            refine lv_iload_n hx hb dX6_court_165 rfl (lv_at hl 2 rfl) ?_
            refine lv_iadd hx hb dX6_court_166 ?_
            refine lv_iload_n hx hb dX6_court_167 rfl (lv_at hl 0 rfl) ?_
            refine lv_if_eq (tgt := 183) hx hb dX6_court_168 (by decide) (fun c28 => absurd c28 (by decide)) (fun c28 => ?_)
            refine lv_aload_n hx hb dX6_court_171 rfl (lv_at hl 3 rfl) ?_
            refine lv_iload_n hx hb dX6_court_172 rfl (lv_at hl 1 rfl) ?_
            refine lv_iconst (v := 4) hx hb dX6_court_173 (by decide) ?_
            refine lv_iadd hx hb dX6_court_174 ?_
            refine lv_bipush (v := 48) hx hb dX6_court_175 (by decide) ?_
            obtain ⟨x29, hx29, hf⟩ := dg_bind hf
            have hPc : va_P (dC, dI) vwCl [(ht, .inr (5, [.int ((vt_length - (1:Int32)) / (6:Int32)), .ref ht_drops, .ref ht_tires, .ref ht_now, .ref ht_told, .ref ht_text, .int vt_length, .ref ht_pages, .int vt_acts, .int vt_next, .ref ht_row, .int vt_found, .ref ht_alike, .ref ht_table, .ref ht_keys, .ref ht_own, .long vt_seed, .ref ht_isKept, .ref ht_kept])), (ht_text, .inl (cI, 32, .inl vt_text))] H := hP.sub [5, 6] rfl
            have hDc : va_D A [(ht, .inr (5, [.int ((vt_length - (1:Int32)) / (6:Int32)), .ref ht_drops, .ref ht_tires, .ref ht_now, .ref ht_told, .ref ht_text, .int vt_length, .ref ht_pages, .int vt_acts, .int vt_next, .ref ht_row, .int vt_found, .ref ht_alike, .ref ht_table, .ref ht_keys, .ref ht_own, .long vt_seed, .ref ht_isKept, .ref ht_kept])), (ht_text, .inl (cI, 32, .inl vt_text))] := hD.sub [5, 6] (by decide) rfl
            have hFc := va_free (wc := [(ht, .inr (5, [.int ((vt_length - (1:Int32)) / (6:Int32)), .ref ht_drops, .ref ht_tires, .ref ht_now, .ref ht_told, .ref ht_text, .int vt_length, .ref ht_pages, .int vt_acts, .int vt_next, .ref ht_row, .int vt_found, .ref ht_alike, .ref ht_table, .ref ht_keys, .ref ht_own, .long vt_seed, .ref ht_isKept, .ref ht_kept])), (ht_text, .inl (cI, 32, .inl vt_text))]) hD hS hA [5, 6] rfl
            refine va_calli (va_runV (As := [.int (((2:Int32) + ((6:Int32) * y1_34)) + (4:Int32)), .int (48:Int32)]) (rest := [.int ((9:Int32) + y1_34), .ref ht_now]) ⟨hx, hb, hml, hown, hts⟩ (k_X6_sign l dC dI cI cJ cZ H.size ht ht_drops ht_tires ht_now ht_told ht_text ht_pages ht_row ht_alike ht_table ht_keys ht_own ht_isKept ht_kept (((2:Int32) + ((6:Int32) * y1_34)) + (4:Int32)) (48:Int32) ((vt_length - (1:Int32)) / (6:Int32)) vt_length vt_acts vt_next vt_found vt_seed vt_text N x29 hx29) (cwV 2 hts gX6_court_X6_sign rfl rfl rfl hd_X6_sign ⟨Nat.le_of_ble_eq_true rfl, Nat.le_of_ble_eq_true rfl⟩) ⟨blind_pc, va_recv hK hPc (ci := 5) (q0 := 0) rfl rfl, pre_pc hPc hK hDc⟩ rfl rfl hl.1 rfl (lv_room (Nat.le_of_ble_eq_true rfl)) dX6_court_177 ⟨Nat.zero_le _, Nat.zero_le _⟩) hS (fun q _ h => hFc q h) hFc (fun r u t H1 locs eth hvm hw hB hz1 hk1 hS => ?_)
            obtain ⟨hP1, hK1, hD1⟩ := hB
            rw [eth] at hP1
            subst hw
            obtain ⟨hP, hD⟩ := va_join (wr := [(ht_drops, .inl (cI, 4, .inl (upd yvt_drops_34 y1_34.toNatClampNeg x17))), (ht_tires, .inl (cI, 4, .inl (upd yvt_tires_34 y1_34.toNatClampNeg ((vt_text (((2:Int32) + ((6:Int32) * y1_34)) + (3:Int32)).toNatClampNeg) - (48:Int32))))), (ht_now, .inl (cI, 13, .inl (upd (upd yvt_now_34 ((1:Int32) + y1_34).toNatClampNeg x20) ((5:Int32) + y1_34).toNatClampNeg x23))), (ht_told, .inl (cI, 4, .inl yvt_told_34)), (ht_isKept, .inl (cZ, 2, .inl vt_isKept))]) (w1 := [(ht, .inr (5, [.int ((vt_length - (1:Int32)) / (6:Int32)), .ref ht_drops, .ref ht_tires, .ref ht_now, .ref ht_told, .ref ht_text, .int vt_length, .ref ht_pages, .int vt_acts, .int vt_next, .ref ht_row, .int vt_found, .ref ht_alike, .ref ht_table, .ref ht_keys, .ref ht_own, .long vt_seed, .ref ht_isKept, .ref ht_kept])), (ht_text, .inl (cI, 32, .inl vt_text))]) hP hD [5, 6] [0, 1, 2, 3, 4] rfl rfl (by decide) (by decide) hk1 hFc hP1 hD1
            clear hP1 hK1 hD1 hPc hDc hFc hk1 hz1 hvm eth
            generalize H1 = H at hP hS ⊢
            have hP : va_P (dC, dI) vwCl [(ht_drops, .inl (cI, 4, .inl (upd yvt_drops_34 y1_34.toNatClampNeg x17))), (ht_tires, .inl (cI, 4, .inl (upd yvt_tires_34 y1_34.toNatClampNeg ((vt_text (((2:Int32) + ((6:Int32) * y1_34)) + (3:Int32)).toNatClampNeg) - (48:Int32))))), (ht_now, .inl (cI, 13, .inl (upd (upd yvt_now_34 ((1:Int32) + y1_34).toNatClampNeg x20) ((5:Int32) + y1_34).toNatClampNeg x23))), (ht_told, .inl (cI, 4, .inl yvt_told_34)), (ht_isKept, .inl (cZ, 2, .inl vt_isKept)), (ht, .inr (5, [.int ((vt_length - (1:Int32)) / (6:Int32)), .ref ht_drops, .ref ht_tires, .ref ht_now, .ref ht_told, .ref ht_text, .int vt_length, .ref ht_pages, .int vt_acts, .int vt_next, .ref ht_row, .int vt_found, .ref ht_alike, .ref ht_table, .ref ht_keys, .ref ht_own, .long vt_seed, .ref ht_isKept, .ref ht_kept])), (ht_text, .inl (cI, 32, .inl vt_text))] H := hP
            have hD : va_D A [(ht_drops, .inl (cI, 4, .inl (upd yvt_drops_34 y1_34.toNatClampNeg x17))), (ht_tires, .inl (cI, 4, .inl (upd yvt_tires_34 y1_34.toNatClampNeg ((vt_text (((2:Int32) + ((6:Int32) * y1_34)) + (3:Int32)).toNatClampNeg) - (48:Int32))))), (ht_now, .inl (cI, 13, .inl (upd (upd yvt_now_34 ((1:Int32) + y1_34).toNatClampNeg x20) ((5:Int32) + y1_34).toNatClampNeg x23))), (ht_told, .inl (cI, 4, .inl yvt_told_34)), (ht_isKept, .inl (cZ, 2, .inl vt_isKept)), (ht, .inr (5, [.int ((vt_length - (1:Int32)) / (6:Int32)), .ref ht_drops, .ref ht_tires, .ref ht_now, .ref ht_told, .ref ht_text, .int vt_length, .ref ht_pages, .int vt_acts, .int vt_next, .ref ht_row, .int vt_found, .ref ht_alike, .ref ht_table, .ref ht_keys, .ref ht_own, .long vt_seed, .ref ht_isKept, .ref ht_kept])), (ht_text, .inl (cI, 32, .inl vt_text))] := hD
            refine lv_goto (tgt := 185) hx hb dX6_court_180 (by decide) ?_
            obtain ⟨hi30, hf⟩ := dg_ix hf
            refine va_iast hx hb hK hP hD hS 2 0 rfl rfl hi30 dX6_court_185 (fun H locs hP hD hS => ?_)
            have hP : va_P (dC, dI) vwCl [(ht_drops, .inl (cI, 4, .inl (upd yvt_drops_34 y1_34.toNatClampNeg x17))), (ht_tires, .inl (cI, 4, .inl (upd yvt_tires_34 y1_34.toNatClampNeg ((vt_text (((2:Int32) + ((6:Int32) * y1_34)) + (3:Int32)).toNatClampNeg) - (48:Int32))))), (ht_now, .inl (cI, 13, .inl (upd (upd (upd yvt_now_34 ((1:Int32) + y1_34).toNatClampNeg x20) ((5:Int32) + y1_34).toNatClampNeg x23) ((9:Int32) + y1_34).toNatClampNeg x29))), (ht_told, .inl (cI, 4, .inl yvt_told_34)), (ht_isKept, .inl (cZ, 2, .inl vt_isKept)), (ht, .inr (5, [.int ((vt_length - (1:Int32)) / (6:Int32)), .ref ht_drops, .ref ht_tires, .ref ht_now, .ref ht_told, .ref ht_text, .int vt_length, .ref ht_pages, .int vt_acts, .int vt_next, .ref ht_row, .int vt_found, .ref ht_alike, .ref ht_table, .ref ht_keys, .ref ht_own, .long vt_seed, .ref ht_isKept, .ref ht_kept])), (ht_text, .inl (cI, 32, .inl vt_text))] H := hP
            have hD : va_D A [(ht_drops, .inl (cI, 4, .inl (upd yvt_drops_34 y1_34.toNatClampNeg x17))), (ht_tires, .inl (cI, 4, .inl (upd yvt_tires_34 y1_34.toNatClampNeg ((vt_text (((2:Int32) + ((6:Int32) * y1_34)) + (3:Int32)).toNatClampNeg) - (48:Int32))))), (ht_now, .inl (cI, 13, .inl (upd (upd (upd yvt_now_34 ((1:Int32) + y1_34).toNatClampNeg x20) ((5:Int32) + y1_34).toNatClampNeg x23) ((9:Int32) + y1_34).toNatClampNeg x29))), (ht_told, .inl (cI, 4, .inl yvt_told_34)), (ht_isKept, .inl (cZ, 2, .inl vt_isKept)), (ht, .inr (5, [.int ((vt_length - (1:Int32)) / (6:Int32)), .ref ht_drops, .ref ht_tires, .ref ht_now, .ref ht_told, .ref ht_text, .int vt_length, .ref ht_pages, .int vt_acts, .int vt_next, .ref ht_row, .int vt_found, .ref ht_alike, .ref ht_table, .ref ht_keys, .ref ht_own, .long vt_seed, .ref ht_isKept, .ref ht_kept])), (ht_text, .inl (cI, 32, .inl vt_text))] := hD
            refine lv_aload_n hx hb dX6_court_186 rfl (lv_at hl 3 rfl) ?_
            refine va_get (D := (dC, dI)) (ci := 5) (v := .ref ht_told) (C := RX6) (T := TX6) (N := 19) hx hb hts hinX6 hown hK hP 5 rfl rfl 4 (by decide) hw7 (fun _ h9 => h9) rfl dX6_court_187 ?_
            refine lv_iload_n hx hb dX6_court_190 rfl (lv_at hl 2 rfl) ?_
            refine lv_bipush (v := -9) hx hb dX6_court_191 (by decide) ?_
            obtain ⟨hi31, hf⟩ := dg_ix hf
            refine va_iast hx hb hK hP hD hS 3 0 rfl rfl hi31 dX6_court_193 (fun H locs hP hD hS => ?_)
            have hP : va_P (dC, dI) vwCl [(ht_drops, .inl (cI, 4, .inl (upd yvt_drops_34 y1_34.toNatClampNeg x17))), (ht_tires, .inl (cI, 4, .inl (upd yvt_tires_34 y1_34.toNatClampNeg ((vt_text (((2:Int32) + ((6:Int32) * y1_34)) + (3:Int32)).toNatClampNeg) - (48:Int32))))), (ht_now, .inl (cI, 13, .inl (upd (upd (upd yvt_now_34 ((1:Int32) + y1_34).toNatClampNeg x20) ((5:Int32) + y1_34).toNatClampNeg x23) ((9:Int32) + y1_34).toNatClampNeg x29))), (ht_told, .inl (cI, 4, .inl (upd yvt_told_34 y1_34.toNatClampNeg (-9:Int32)))), (ht_isKept, .inl (cZ, 2, .inl vt_isKept)), (ht, .inr (5, [.int ((vt_length - (1:Int32)) / (6:Int32)), .ref ht_drops, .ref ht_tires, .ref ht_now, .ref ht_told, .ref ht_text, .int vt_length, .ref ht_pages, .int vt_acts, .int vt_next, .ref ht_row, .int vt_found, .ref ht_alike, .ref ht_table, .ref ht_keys, .ref ht_own, .long vt_seed, .ref ht_isKept, .ref ht_kept])), (ht_text, .inl (cI, 32, .inl vt_text))] H := hP
            have hD : va_D A [(ht_drops, .inl (cI, 4, .inl (upd yvt_drops_34 y1_34.toNatClampNeg x17))), (ht_tires, .inl (cI, 4, .inl (upd yvt_tires_34 y1_34.toNatClampNeg ((vt_text (((2:Int32) + ((6:Int32) * y1_34)) + (3:Int32)).toNatClampNeg) - (48:Int32))))), (ht_now, .inl (cI, 13, .inl (upd (upd (upd yvt_now_34 ((1:Int32) + y1_34).toNatClampNeg x20) ((5:Int32) + y1_34).toNatClampNeg x23) ((9:Int32) + y1_34).toNatClampNeg x29))), (ht_told, .inl (cI, 4, .inl (upd yvt_told_34 y1_34.toNatClampNeg (-9:Int32)))), (ht_isKept, .inl (cZ, 2, .inl vt_isKept)), (ht, .inr (5, [.int ((vt_length - (1:Int32)) / (6:Int32)), .ref ht_drops, .ref ht_tires, .ref ht_now, .ref ht_told, .ref ht_text, .int vt_length, .ref ht_pages, .int vt_acts, .int vt_next, .ref ht_row, .int vt_found, .ref ht_alike, .ref ht_table, .ref ht_keys, .ref ht_own, .long vt_seed, .ref ht_isKept, .ref ht_kept])), (ht_text, .inl (cI, 32, .inl vt_text))] := hD
            refine lv_iinc (v := (y1_34 + (1:Int32))) (lv' := [(1, .int (y1_34 + (1:Int32))), (3, .int (1:Int32)), (2, .int ((2:Int32) + ((6:Int32) * y1_34))), (0, .ref ht)]) hx hb dX6_court_194 hl (k := 2) rfl (by first | rfl | decide) (by decide) rfl (fun ls hl => ?_)
            refine lv_goto (tgt := 34) hx hb dX6_court_197 (by decide) ?_
            exact ih34 (y1_34 + (1:Int32)) (upd yvt_drops_34 y1_34.toNatClampNeg x17) (upd yvt_tires_34 y1_34.toNatClampNeg ((vt_text (((2:Int32) + ((6:Int32) * y1_34)) + (3:Int32)).toNatClampNeg) - (48:Int32))) (upd (upd (upd yvt_now_34 ((1:Int32) + y1_34).toNatClampNeg x20) ((5:Int32) + y1_34).toNatClampNeg x23) ((9:Int32) + y1_34).toNatClampNeg x29) (upd yvt_told_34 y1_34.toNatClampNeg (-9:Int32)) _ _ _ hP hD hS (lv_sub hl [0, 3] rfl) hf
    exact lp34 N (0:Int32) vt_drops vt_tires (upd vt_now 0 (0:Int32)) vt_told _ _ _ hP hD hS hl hf
  · replace hf := dg_f c2 hf
    refine lv_bipush (v := -3) hx hb dX6_court_9 (by decide) ?_
    have he := Option.some.inj hf
    have hP9 := (hP.sub (ws' := [(ht, .inr (5, [.int vt_clerks, .ref ht_drops, .ref ht_tires, .ref ht_now, .ref ht_told, .ref ht_text, .int vt_length, .ref ht_pages, .int vt_acts, .int vt_next, .ref ht_row, .int vt_found, .ref ht_alike, .ref ht_table, .ref ht_keys, .ref ht_own, .long vt_seed, .ref ht_isKept, .ref ht_kept])), (ht_drops, .inl (cI, 4, .inl vt_drops)), (ht_tires, .inl (cI, 4, .inl vt_tires)), (ht_now, .inl (cI, 13, .inl vt_now)), (ht_told, .inl (cI, 4, .inl vt_told)), (ht_text, .inl (cI, 32, .inl vt_text)), (ht_isKept, .inl (cZ, 2, .inl vt_isKept))]) [5, 0, 1, 2, 3, 6, 4] rfl)
    have hD9 := (hD.sub (ws' := [(ht, .inr (5, [.int vt_clerks, .ref ht_drops, .ref ht_tires, .ref ht_now, .ref ht_told, .ref ht_text, .int vt_length, .ref ht_pages, .int vt_acts, .int vt_next, .ref ht_row, .int vt_found, .ref ht_alike, .ref ht_table, .ref ht_keys, .ref ht_own, .long vt_seed, .ref ht_isKept, .ref ht_kept])), (ht_drops, .inl (cI, 4, .inl vt_drops)), (ht_tires, .inl (cI, 4, .inl vt_tires)), (ht_now, .inl (cI, 13, .inl vt_now)), (ht_told, .inl (cI, 4, .inl vt_told)), (ht_text, .inl (cI, 32, .inl vt_text)), (ht_isKept, .inl (cZ, 2, .inl vt_isKept))]) [5, 0, 1, 2, 3, 6, 4] (by decide) rfl)
    exact W.iret (v := (-3:Int32)) hx hb hr (fun t eth hW => ⟨⟨(-3:Int32), (vt_clerks, vt_acts, vt_drops, vt_tires, vt_now, vt_told, vt_isKept), rfl, ⟨(congrArg Prod.fst he).symm, (congrArg Prod.snd he).symm⟩, by rw [eth]; exact hP9, va_K.moved hW.alike hK, hD9⟩, hS.F eth⟩) hS.2.2 dX6_court_11
theorem hd_X6_isClerk : yX6_isClerk.cls = RX6 ∧ yX6_isClerk.cls ≠ "java/lang/invoke/MethodHandle" ∧ yX6_isClerk.cls ≠ "java/lang/invoke/VarHandle" ∧ (parseMethodDescriptor yX6_isClerk.desc).map (fun d => d.parameters.length) = some 1 := by decide +kernel
abbrev rm_X6_isClerk : Room := { frames := 1, cells := 0, slots := 0, locals := 25 }
abbrev q_X6_isClerk (dC : Nat → ClassId) (dI : Nat → Nat → Nat) (cI cJ cZ : ClassId) (ht ht_drops ht_tires ht_now ht_told ht_text ht_pages ht_row ht_alike ht_table ht_keys ht_own ht_isKept ht_kept : Nat) (vt_clerks : Int32) (vt_length : Int32) (vt_acts : Int32) (vt_next : Int32) (vt_found : Int32) (vt_seed : Int64) (R : Int32) (A : Nat → Prop) : Array Value → State → Outcome → State → Prop := va_Qi (fun (r : Int32) (_ : Unit) => R = r) (fun (u : Unit) (t : State) => va_P (dC, dI) vwCl [(ht, .inr (5, [.int vt_clerks, .ref ht_drops, .ref ht_tires, .ref ht_now, .ref ht_told, .ref ht_text, .int vt_length, .ref ht_pages, .int vt_acts, .int vt_next, .ref ht_row, .int vt_found, .ref ht_alike, .ref ht_table, .ref ht_keys, .ref ht_own, .long vt_seed, .ref ht_isKept, .ref ht_kept]))] t.heap ∧ va_K (dC, dI) vwCl [(cI, .int), (cJ, .long), (cZ, .boolean)] t ∧ va_D A [(ht, .inr (5, [.int vt_clerks, .ref ht_drops, .ref ht_tires, .ref ht_now, .ref ht_told, .ref ht_text, .int vt_length, .ref ht_pages, .int vt_acts, .int vt_next, .ref ht_row, .int vt_found, .ref ht_alike, .ref ht_table, .ref ht_keys, .ref ht_own, .long vt_seed, .ref ht_isKept, .ref ht_kept]))]) A
set_option maxHeartbeats 4000000 in
set_option maxRecDepth 100000 in
theorem k_X6_isClerk (l : Launch) (dC : Nat → ClassId) (dI : Nat → Nat → Nat) (cI cJ cZ : ClassId) (sz : Nat) (ht ht_drops ht_tires ht_now ht_told ht_text ht_pages ht_row ht_alike ht_table ht_keys ht_own ht_isKept ht_kept : Nat) (a1 : Int32) (vt_clerks : Int32) (vt_length : Int32) (vt_acts : Int32) (vt_next : Int32) (vt_found : Int32) (vt_seed : Int64) (N : Nat) (R : Int32) (hf : f_X6_isClerk N a1 vt_clerks = some R) : Met l yX6_isClerk wsX6_isClerk (rm_X6_isClerk) (va_Pc [.ref ht, .int a1] (fun U => U.heap.size = sz ∧ va_P (dC, dI) vwCl [(ht, .inr (5, [.int vt_clerks, .ref ht_drops, .ref ht_tires, .ref ht_now, .ref ht_told, .ref ht_text, .int vt_length, .ref ht_pages, .int vt_acts, .int vt_next, .ref ht_row, .int vt_found, .ref ht_alike, .ref ht_table, .ref ht_keys, .ref ht_own, .long vt_seed, .ref ht_isKept, .ref ht_kept]))] U.heap ∧ va_K (dC, dI) vwCl [(cI, .int), (cJ, .long), (cZ, .boolean)] U ∧ va_D (fun _ => True) [(ht, .inr (5, [.int vt_clerks, .ref ht_drops, .ref ht_tires, .ref ht_now, .ref ht_told, .ref ht_text, .int vt_length, .ref ht_pages, .int vt_acts, .int vt_next, .ref ht_row, .int vt_found, .ref ht_alike, .ref ht_table, .ref ht_keys, .ref ht_own, .long vt_seed, .ref ht_isKept, .ref ht_kept]))])) (q_X6_isClerk dC dI cI cJ cZ ht ht_drops ht_tires ht_now ht_told ht_text ht_pages ht_row ht_alike ht_table ht_keys ht_own ht_isKept ht_kept vt_clerks vt_length vt_acts vt_next vt_found vt_seed R (va_A [(ht, .inr (5, [.int vt_clerks, .ref ht_drops, .ref ht_tires, .ref ht_now, .ref ht_told, .ref ht_text, .int vt_length, .ref ht_pages, .int vt_acts, .int vt_next, .ref ht_row, .int vt_found, .ref ht_alike, .ref ht_table, .ref ht_keys, .ref ht_own, .long vt_seed, .ref ht_isKept, .ref ht_kept]))] sz)) 0 0 (va_A [(ht, .inr (5, [.int vt_clerks, .ref ht_drops, .ref ht_tires, .ref ht_now, .ref ht_told, .ref ht_text, .int vt_length, .ref ht_pages, .int vt_acts, .int vt_next, .ref ht_row, .int vt_found, .ref ht_alike, .ref ht_table, .ref ht_keys, .ref ht_own, .long vt_seed, .ref ht_isKept, .ref ht_kept]))] sz) := by
  refine Met.ofW (cc := cX6_isClerk) (maxL := 2) (ret := (some .boolean)) (by decide) rfl ?_
  intro p e s m args below meth c s₁ B hml hv
  obtain ⟨rfl, hsz, hP, hK, hD0⟩ := hv
  have hx := B.exec
  have hb := B.bytes
  have hr := B.returns
  have hts := atoms_spec (ws := wsX6_isClerk) B.pre
  have hown : s.vm.findClass RX6 = some m.cls := findClass_of_methodNamed B.named
  have hlocks := B.notSynchronized
  clear B
  subst hsz
  have hw0 := hts (.fieldLink RX6 79 "ShorthandCourtModel" "clerks" "I") (by decide +kernel)
  have hinX6 : ∀ w ∈ u_ws RX6 TX6 19, w ∈ wsX6_isClerk := by decide +kernel
  have hD := hD0.self (sz := s.heap.size)
  clear hD0
  generalize hAe : va_A [(ht, .inr (5, [.int vt_clerks, .ref ht_drops, .ref ht_tires, .ref ht_now, .ref ht_told, .ref ht_text, .int vt_length, .ref ht_pages, .int vt_acts, .int vt_next, .ref ht_row, .int vt_found, .ref ht_alike, .ref ht_table, .ref ht_keys, .ref ht_own, .long vt_seed, .ref ht_isKept, .ref ht_kept]))] s.heap.size = A at hD ⊢
  have hA : ∀ q : Nat, s.heap.size ≤ q → A q := fun q h => by rw [← hAe]; exact Or.inr h
  clear hAe
  have hS : va_S A s.heap s.heap [] := va_S.rf
  have hl := lv_entry ([.ref ht, .int a1]) (n := 2) (Nat.le_of_ble_eq_true rfl)
  rw [lg_entry_eq]
  generalize (lg_sl ([.ref ht, .int a1]) ++ List.replicate (2 - (lg_sl ([.ref ht, .int a1])).length) Slot.unset).toArray = ls at hl ⊢
  have hl : lv_has ls 2 [(0, .ref ht), (1, .int a1)] := hl
  unfold f_X6_isClerk at hf
  refine lv_iload_n hx hb dX6_isClerk_0 rfl (lv_at hl 1 rfl) ?_
  refine lv_i2l hx hb dX6_isClerk_1 rfl ?_
  refine lv_lconst (v := 0) hx hb dX6_isClerk_2 (by decide) ?_
  refine lv_aload_n hx hb dX6_isClerk_3 rfl (lv_at hl 0 rfl) ?_
  refine va_get (D := (dC, dI)) (ci := 5) (v := .int vt_clerks) (C := RX6) (T := TX6) (N := 19) hx hb hts hinX6 hown hK hP 0 rfl rfl 0 (by decide) hw0 (fun _ h9 => h9) rfl dX6_isClerk_4 ?_
  refine lv_iconst (v := 1) hx hb dX6_isClerk_7 (by decide) ?_
  refine lv_isub hx hb dX6_isClerk_8 ?_
  refine lv_i2l hx hb dX6_isClerk_9 rfl ?_
  obtain ⟨x1, hx1, hf⟩ := dg_bind hf
  have hPc : va_P (dC, dI) vwCl [] s.heap := hP.sub [] rfl
  have hDc : va_D A [] := hD.sub [] (by decide) rfl
  have hFc := va_free (wc := []) hD hS hA [] rfl
  refine va_calli (va_runS (As := [.long a1.toInt64, .long (0:Int64), .long (vt_clerks - (1:Int32)).toInt64]) (rest := []) ⟨hx, hb, hml, hown, hts⟩ (k_X6_in l dC dI cI cJ cZ s.heap.size a1.toInt64 (0:Int64) (vt_clerks - (1:Int32)).toInt64 N x1 hx1) (va_cwS 3 hts gX6_isClerk_X6_in rfl rfl rfl hd_X6_in ⟨Nat.le_of_ble_eq_true rfl, Nat.le_of_ble_eq_true rfl⟩) ⟨blind_pc, pre_pc hPc hK hDc⟩ rfl rfl hl.1 rfl (lv_room (Nat.le_of_ble_eq_true rfl)) dX6_isClerk_10 ⟨Nat.zero_le _, Nat.zero_le _⟩) hS (fun q _ h => hFc q h) hFc (fun r u t H1 locs eth hvm hw hB hz1 hk1 hS => ?_)
  obtain ⟨hP1, hK1, hD1⟩ := hB
  rw [eth] at hP1
  subst hw
  obtain ⟨hP, hD⟩ := va_join (wr := [(ht, .inr (5, [.int vt_clerks, .ref ht_drops, .ref ht_tires, .ref ht_now, .ref ht_told, .ref ht_text, .int vt_length, .ref ht_pages, .int vt_acts, .int vt_next, .ref ht_row, .int vt_found, .ref ht_alike, .ref ht_table, .ref ht_keys, .ref ht_own, .long vt_seed, .ref ht_isKept, .ref ht_kept]))]) (w1 := []) hP hD [] [0] rfl rfl (by decide) (by decide) hk1 hFc hP1 hD1
  clear hP1 hK1 hD1 hPc hDc hFc hk1 hz1 hvm eth
  generalize H1 = H at hP hS ⊢
  have hP : va_P (dC, dI) vwCl [(ht, .inr (5, [.int vt_clerks, .ref ht_drops, .ref ht_tires, .ref ht_now, .ref ht_told, .ref ht_text, .int vt_length, .ref ht_pages, .int vt_acts, .int vt_next, .ref ht_row, .int vt_found, .ref ht_alike, .ref ht_table, .ref ht_keys, .ref ht_own, .long vt_seed, .ref ht_isKept, .ref ht_kept]))] H := hP
  have hD : va_D A [(ht, .inr (5, [.int vt_clerks, .ref ht_drops, .ref ht_tires, .ref ht_now, .ref ht_told, .ref ht_text, .int vt_length, .ref ht_pages, .int vt_acts, .int vt_next, .ref ht_row, .int vt_found, .ref ht_alike, .ref ht_table, .ref ht_keys, .ref ht_own, .long vt_seed, .ref ht_isKept, .ref ht_kept]))] := hD
  obtain ⟨hz2, hf⟩ := dg_z hf
  have he := Option.some.inj hf
  have hP9 := hP
  have hD9 := hD
  exact W.zret (v := x1) (ty := .boolean) hx hb hr hz2 (fun t eth hW => ⟨⟨x1, (), rfl, he.symm, by rw [eth]; exact hP9, va_K.moved hW.alike hK, hD9⟩, hS.F eth⟩) hS.2.2 dX6_isClerk_13
theorem hd_X6_wordsOf : yX6_wordsOf.cls ≠ "java/lang/invoke/MethodHandle" ∧ yX6_wordsOf.cls ≠ "java/lang/invoke/VarHandle" ∧ (parseMethodDescriptor yX6_wordsOf.desc).map (fun d => d.parameters.length) = some 1 := by decide +kernel
abbrev rm_X6_wordsOf : Room := { frames := 0, cells := 0, slots := 0, locals := 0 }
abbrev q_X6_wordsOf (dC : Nat → ClassId) (dI : Nat → Nat → Nat) (cI cJ cZ : ClassId) (R : Int32) (A : Nat → Prop) : Array Value → State → Outcome → State → Prop := va_Qi (fun (r : Int32) (_ : Unit) => R = r) (fun (u : Unit) (t : State) => va_P (dC, dI) vwCl [] t.heap ∧ va_K (dC, dI) vwCl [(cI, .int), (cJ, .long), (cZ, .boolean)] t ∧ va_D A []) A
set_option maxHeartbeats 4000000 in
set_option maxRecDepth 100000 in
theorem k_X6_wordsOf (l : Launch) (dC : Nat → ClassId) (dI : Nat → Nat → Nat) (cI cJ cZ : ClassId) (sz : Nat) (a0 : Int32) (N : Nat) (R : Int32) (hf : f_X6_wordsOf N a0 = some R) : Met l yX6_wordsOf wsX6_wordsOf (rm_X6_wordsOf) (va_Pc [.int a0] (fun U => U.heap.size = sz ∧ va_P (dC, dI) vwCl [] U.heap ∧ va_K (dC, dI) vwCl [(cI, .int), (cJ, .long), (cZ, .boolean)] U ∧ va_D (fun _ => True) [])) (q_X6_wordsOf dC dI cI cJ cZ  R (va_A [] sz)) 0 0 (va_A [] sz) := by
  refine Met.ofW (cc := cX6_wordsOf) (maxL := 1) (ret := (some .int)) (by decide) rfl ?_
  intro p e s m args below meth c s₁ B hml hv
  obtain ⟨rfl, hsz, hP, hK, hD0⟩ := hv
  have hx := B.exec
  have hb := B.bytes
  have hr := B.returns
  have hts := atoms_spec (ws := wsX6_wordsOf) B.pre
  have hown : s.vm.findClass RX6 = some m.cls := findClass_of_methodNamed B.named
  have hlocks := B.notSynchronized
  clear B
  subst hsz
  have hD := hD0.self (sz := s.heap.size)
  clear hD0
  generalize hAe : va_A [] s.heap.size = A at hD ⊢
  have hA : ∀ q : Nat, s.heap.size ≤ q → A q := fun q h => by rw [← hAe]; exact Or.inr h
  clear hAe
  have hS : va_S A s.heap s.heap [] := va_S.rf
  have hl := lv_entry ([.int a0]) (n := 1) (Nat.le_of_ble_eq_true rfl)
  rw [lg_entry_eq]
  generalize (lg_sl ([.int a0]) ++ List.replicate (1 - (lg_sl ([.int a0])).length) Slot.unset).toArray = ls at hl ⊢
  have hl : lv_has ls 1 [(0, .int a0)] := hl
  unfold f_X6_wordsOf at hf
  refine lv_iload_n hx hb dX6_wordsOf_0 rfl (lv_at hl 0 rfl) ?_
  refine lv_sipush (v := 4096) hx hb dX6_wordsOf_1 (by decide) ?_
  refine lv_idiv hx hb dX6_wordsOf_4 (by decide) ?_
  have he := Option.some.inj hf
  have hP9 := hP
  have hD9 := hD
  exact W.iret (v := (a0 / (4096:Int32))) hx hb hr (fun t eth hW => ⟨⟨(a0 / (4096:Int32)), (), rfl, he.symm, by rw [eth]; exact hP9, va_K.moved hW.alike hK, hD9⟩, hS.F eth⟩) hS.2.2 dX6_wordsOf_5
theorem hd_X6_wordAt : yX6_wordAt.cls ≠ "java/lang/invoke/MethodHandle" ∧ yX6_wordAt.cls ≠ "java/lang/invoke/VarHandle" ∧ (parseMethodDescriptor yX6_wordAt.desc).map (fun d => d.parameters.length) = some 2 := by decide +kernel
abbrev rm_X6_wordAt : Room := { frames := 1, cells := 0, slots := 0, locals := 20 }
abbrev q_X6_wordAt (dC : Nat → ClassId) (dI : Nat → Nat → Nat) (cI cJ cZ : ClassId) (R : Int32) (A : Nat → Prop) : Array Value → State → Outcome → State → Prop := va_Qi (fun (r : Int32) (_ : Unit) => R = r) (fun (u : Unit) (t : State) => va_P (dC, dI) vwCl [] t.heap ∧ va_K (dC, dI) vwCl [(cI, .int), (cJ, .long), (cZ, .boolean)] t ∧ va_D A []) A
set_option maxHeartbeats 4000000 in
set_option maxRecDepth 100000 in
theorem k_X6_wordAt (l : Launch) (dC : Nat → ClassId) (dI : Nat → Nat → Nat) (cI cJ cZ : ClassId) (sz : Nat) (a0 : Int32) (a1 : Int32) (N : Nat) (R : Int32) (hf : f_X6_wordAt N a0 a1 = some R) : Met l yX6_wordAt wsX6_wordAt (rm_X6_wordAt) (va_Pc [.int a0, .int a1] (fun U => U.heap.size = sz ∧ va_P (dC, dI) vwCl [] U.heap ∧ va_K (dC, dI) vwCl [(cI, .int), (cJ, .long), (cZ, .boolean)] U ∧ va_D (fun _ => True) [])) (q_X6_wordAt dC dI cI cJ cZ  R (va_A [] sz)) 0 0 (va_A [] sz) := by
  refine Met.ofW (cc := cX6_wordAt) (maxL := 2) (ret := (some .int)) (by decide) rfl ?_
  intro p e s m args below meth c s₁ B hml hv
  obtain ⟨rfl, hsz, hP, hK, hD0⟩ := hv
  have hx := B.exec
  have hb := B.bytes
  have hr := B.returns
  have hts := atoms_spec (ws := wsX6_wordAt) B.pre
  have hown : s.vm.findClass RX6 = some m.cls := findClass_of_methodNamed B.named
  have hlocks := B.notSynchronized
  clear B
  subst hsz
  have hD := hD0.self (sz := s.heap.size)
  clear hD0
  generalize hAe : va_A [] s.heap.size = A at hD ⊢
  have hA : ∀ q : Nat, s.heap.size ≤ q → A q := fun q h => by rw [← hAe]; exact Or.inr h
  clear hAe
  have hS : va_S A s.heap s.heap [] := va_S.rf
  have hl := lv_entry ([.int a0, .int a1]) (n := 2) (Nat.le_of_ble_eq_true rfl)
  rw [lg_entry_eq]
  generalize (lg_sl ([.int a0, .int a1]) ++ List.replicate (2 - (lg_sl ([.int a0, .int a1])).length) Slot.unset).toArray = ls at hl ⊢
  have hl : lv_has ls 2 [(0, .int a0), (1, .int a1)] := hl
  unfold f_X6_wordAt at hf
  refine lv_iload_n hx hb dX6_wordAt_0 rfl (lv_at hl 0 rfl) ?_
  refine lv_sipush (v := 4096) hx hb dX6_wordAt_1 (by decide) ?_
  refine lv_irem hx hb dX6_wordAt_4 (by decide) ?_
  refine lv_iload_n hx hb dX6_wordAt_5 rfl (lv_at hl 0 rfl) ?_
  obtain ⟨x1, hx1, hf⟩ := dg_bind hf
  have hPc : va_P (dC, dI) vwCl [] s.heap := hP.sub [] rfl
  have hDc : va_D A [] := hD.sub [] (by decide) rfl
  have hFc := va_free (wc := []) hD hS hA [] rfl
  refine va_calli (va_runS (As := [.int a0]) (rest := [.int (a0 - a0 / (4096:Int32) * (4096:Int32))]) ⟨hx, hb, hml, hown, hts⟩ (k_X6_wordsOf l dC dI cI cJ cZ s.heap.size a0 N x1 hx1) (va_cwS 1 hts gX6_wordAt_X6_wordsOf rfl rfl rfl hd_X6_wordsOf ⟨Nat.le_of_ble_eq_true rfl, Nat.le_of_ble_eq_true rfl⟩) ⟨blind_pc, pre_pc hPc hK hDc⟩ rfl rfl hl.1 rfl (lv_room (Nat.le_of_ble_eq_true rfl)) dX6_wordAt_6 ⟨Nat.zero_le _, Nat.zero_le _⟩) hS (fun q _ h => hFc q h) hFc (fun r u t H1 locs eth hvm hw hB hz1 hk1 hS => ?_)
  obtain ⟨hP1, hK1, hD1⟩ := hB
  rw [eth] at hP1
  subst hw
  obtain ⟨hP, hD⟩ := va_join (wr := []) (w1 := []) hP hD [] [] rfl rfl (by decide) (by decide) hk1 hFc hP1 hD1
  clear hP1 hK1 hD1 hPc hDc hFc hk1 hz1 hvm eth
  generalize H1 = H at hP hS ⊢
  have hP : va_P (dC, dI) vwCl [] H := hP
  have hD : va_D A [] := hD
  refine lv_iconst (v := 1) hx hb dX6_wordAt_9 (by decide) ?_
  refine lv_isub hx hb dX6_wordAt_10 ?_
  refine lv_iload_n hx hb dX6_wordAt_11 rfl (lv_at hl 1 rfl) ?_
  refine lv_isub hx hb dX6_wordAt_12 ?_
  obtain ⟨x2, hx2, hf⟩ := dg_bind hf
  have hPc : va_P (dC, dI) vwCl [] H := hP.sub [] rfl
  have hDc : va_D A [] := hD.sub [] (by decide) rfl
  have hFc := va_free (wc := []) hD hS hA [] rfl
  refine va_calli (va_runS (As := [.int ((x1 - (1:Int32)) - a1)]) (rest := [.int (a0 - a0 / (4096:Int32) * (4096:Int32))]) ⟨hx, hb, hml, hown, hts⟩ (k_X6_fourTo l dC dI cI cJ cZ H.size ((x1 - (1:Int32)) - a1) N x2 hx2) (va_cwS 1 hts gX6_wordAt_X6_fourTo rfl rfl rfl hd_X6_fourTo ⟨Nat.le_of_ble_eq_true rfl, Nat.le_of_ble_eq_true rfl⟩) ⟨blind_pc, pre_pc hPc hK hDc⟩ rfl rfl hl.1 rfl (lv_room (Nat.le_of_ble_eq_true rfl)) dX6_wordAt_13 ⟨Nat.zero_le _, Nat.zero_le _⟩) hS (fun q _ h => hFc q h) hFc (fun r u t H1 locs eth hvm hw hB hz1 hk1 hS => ?_)
  obtain ⟨hP1, hK1, hD1⟩ := hB
  rw [eth] at hP1
  subst hw
  obtain ⟨hP, hD⟩ := va_join (wr := []) (w1 := []) hP hD [] [] rfl rfl (by decide) (by decide) hk1 hFc hP1 hD1
  clear hP1 hK1 hD1 hPc hDc hFc hk1 hz1 hvm eth
  generalize H1 = H at hP hS ⊢
  have hP : va_P (dC, dI) vwCl [] H := hP
  have hD : va_D A [] := hD
  obtain ⟨hnz3, hf⟩ := dg_nz hf
  refine lv_idiv hx hb dX6_wordAt_16 hnz3 ?_
  refine lv_iconst (v := 4) hx hb dX6_wordAt_17 (by decide) ?_
  refine lv_irem hx hb dX6_wordAt_18 (by decide) ?_
  have he := Option.some.inj hf
  have hP9 := hP
  have hD9 := hD
  exact W.iret (v := (((a0 - a0 / (4096:Int32) * (4096:Int32)) / x2) - ((a0 - a0 / (4096:Int32) * (4096:Int32)) / x2) / (4:Int32) * (4:Int32))) hx hb hr (fun t eth hW => ⟨⟨(((a0 - a0 / (4096:Int32) * (4096:Int32)) / x2) - ((a0 - a0 / (4096:Int32) * (4096:Int32)) / x2) / (4:Int32) * (4:Int32)), (), rfl, he.symm, by rw [eth]; exact hP9, va_K.moved hW.alike hK, hD9⟩, hS.F eth⟩) hS.2.2 dX6_wordAt_19
theorem hd_X6_withWord : yX6_withWord.cls ≠ "java/lang/invoke/MethodHandle" ∧ yX6_withWord.cls ≠ "java/lang/invoke/VarHandle" ∧ (parseMethodDescriptor yX6_withWord.desc).map (fun d => d.parameters.length) = some 2 := by decide +kernel
abbrev rm_X6_withWord : Room := { frames := 0, cells := 0, slots := 0, locals := 0 }
abbrev q_X6_withWord (dC : Nat → ClassId) (dI : Nat → Nat → Nat) (cI cJ cZ : ClassId) (R : Int32) (A : Nat → Prop) : Array Value → State → Outcome → State → Prop := va_Qi (fun (r : Int32) (_ : Unit) => R = r) (fun (u : Unit) (t : State) => va_P (dC, dI) vwCl [] t.heap ∧ va_K (dC, dI) vwCl [(cI, .int), (cJ, .long), (cZ, .boolean)] t ∧ va_D A []) A
set_option maxHeartbeats 4000000 in
set_option maxRecDepth 100000 in
theorem k_X6_withWord (l : Launch) (dC : Nat → ClassId) (dI : Nat → Nat → Nat) (cI cJ cZ : ClassId) (sz : Nat) (a0 : Int32) (a1 : Int32) (N : Nat) (R : Int32) (hf : f_X6_withWord N a0 a1 = some R) : Met l yX6_withWord wsX6_withWord (rm_X6_withWord) (va_Pc [.int a0, .int a1] (fun U => U.heap.size = sz ∧ va_P (dC, dI) vwCl [] U.heap ∧ va_K (dC, dI) vwCl [(cI, .int), (cJ, .long), (cZ, .boolean)] U ∧ va_D (fun _ => True) [])) (q_X6_withWord dC dI cI cJ cZ  R (va_A [] sz)) 0 0 (va_A [] sz) := by
  refine Met.ofW (cc := cX6_withWord) (maxL := 2) (ret := (some .int)) (by decide) rfl ?_
  intro p e s m args below meth c s₁ B hml hv
  obtain ⟨rfl, hsz, hP, hK, hD0⟩ := hv
  have hx := B.exec
  have hb := B.bytes
  have hr := B.returns
  have hts := atoms_spec (ws := wsX6_withWord) B.pre
  have hown : s.vm.findClass RX6 = some m.cls := findClass_of_methodNamed B.named
  have hlocks := B.notSynchronized
  clear B
  subst hsz
  have hD := hD0.self (sz := s.heap.size)
  clear hD0
  generalize hAe : va_A [] s.heap.size = A at hD ⊢
  have hA : ∀ q : Nat, s.heap.size ≤ q → A q := fun q h => by rw [← hAe]; exact Or.inr h
  clear hAe
  have hS : va_S A s.heap s.heap [] := va_S.rf
  have hl := lv_entry ([.int a0, .int a1]) (n := 2) (Nat.le_of_ble_eq_true rfl)
  rw [lg_entry_eq]
  generalize (lg_sl ([.int a0, .int a1]) ++ List.replicate (2 - (lg_sl ([.int a0, .int a1])).length) Slot.unset).toArray = ls at hl ⊢
  have hl : lv_has ls 2 [(0, .int a0), (1, .int a1)] := hl
  unfold f_X6_withWord at hf
  refine lv_iload_n hx hb dX6_withWord_0 rfl (lv_at hl 0 rfl) ?_
  refine lv_sipush (v := 4096) hx hb dX6_withWord_1 (by decide) ?_
  refine lv_idiv hx hb dX6_withWord_4 (by decide) ?_
  refine lv_sipush (v := 4096) hx hb dX6_withWord_5 (by decide) ?_
  refine lv_imul hx hb dX6_withWord_8 ?_
  refine lv_sipush (v := 4096) hx hb dX6_withWord_9 (by decide) ?_
  refine lv_iadd hx hb dX6_withWord_12 ?_
  refine lv_iload_n hx hb dX6_withWord_13 rfl (lv_at hl 0 rfl) ?_
  refine lv_sipush (v := 4096) hx hb dX6_withWord_14 (by decide) ?_
  refine lv_irem hx hb dX6_withWord_17 (by decide) ?_
  refine lv_iconst (v := 4) hx hb dX6_withWord_18 (by decide) ?_
  refine lv_imul hx hb dX6_withWord_19 ?_
  refine lv_iadd hx hb dX6_withWord_20 ?_
  refine lv_iload_n hx hb dX6_withWord_21 rfl (lv_at hl 1 rfl) ?_
  refine lv_iadd hx hb dX6_withWord_22 ?_
  have he := Option.some.inj hf
  have hP9 := hP
  have hD9 := hD
  exact W.iret (v := (((((a0 / (4096:Int32)) * (4096:Int32)) + (4096:Int32)) + ((a0 - a0 / (4096:Int32) * (4096:Int32)) * (4:Int32))) + a1)) hx hb hr (fun t eth hW => ⟨⟨(((((a0 / (4096:Int32)) * (4096:Int32)) + (4096:Int32)) + ((a0 - a0 / (4096:Int32) * (4096:Int32)) * (4:Int32))) + a1), (), rfl, he.symm, by rw [eth]; exact hP9, va_K.moved hW.alike hK, hD9⟩, hS.F eth⟩) hS.2.2 dX6_withWord_23
theorem hd_X6_written : yX6_written.cls ≠ "java/lang/invoke/MethodHandle" ∧ yX6_written.cls ≠ "java/lang/invoke/VarHandle" ∧ (parseMethodDescriptor yX6_written.desc).map (fun d => d.parameters.length) = some 5 := by decide +kernel
abbrev rm_X6_written : Room := { frames := 2, cells := 0, slots := 0, locals := 41 }
abbrev q_X6_written (dC : Nat → ClassId) (dI : Nat → Nat → Nat) (cI cJ cZ : ClassId) (R : Int32) (A : Nat → Prop) : Array Value → State → Outcome → State → Prop := va_Qi (fun (r : Int32) (_ : Unit) => R = r) (fun (u : Unit) (t : State) => va_P (dC, dI) vwCl [] t.heap ∧ va_K (dC, dI) vwCl [(cI, .int), (cJ, .long), (cZ, .boolean)] t ∧ va_D A []) A
set_option maxHeartbeats 4000000 in
set_option maxRecDepth 100000 in
theorem k_X6_written (l : Launch) (dC : Nat → ClassId) (dI : Nat → Nat → Nat) (cI cJ cZ : ClassId) (sz : Nat) (a0 : Int32) (a1 : Int32) (a2 : Int32) (a3 : Int32) (a4 : Int32) (N : Nat) (R : Int32) (hf : f_X6_written N a0 a1 a2 a3 a4 = some R) : Met l yX6_written wsX6_written (rm_X6_written) (va_Pc [.int a0, .int a1, .int a2, .int a3, .int a4] (fun U => U.heap.size = sz ∧ va_P (dC, dI) vwCl [] U.heap ∧ va_K (dC, dI) vwCl [(cI, .int), (cJ, .long), (cZ, .boolean)] U ∧ va_D (fun _ => True) [])) (q_X6_written dC dI cI cJ cZ  R (va_A [] sz)) 0 0 (va_A [] sz) := by
  refine Met.ofW (cc := cX6_written) (maxL := 9) (ret := (some .int)) (by decide) rfl ?_
  intro p e s m args below meth c s₁ B hml hv
  obtain ⟨rfl, hsz, hP, hK, hD0⟩ := hv
  have hx := B.exec
  have hb := B.bytes
  have hr := B.returns
  have hts := atoms_spec (ws := wsX6_written) B.pre
  have hown : s.vm.findClass RX6 = some m.cls := findClass_of_methodNamed B.named
  have hlocks := B.notSynchronized
  clear B
  subst hsz
  have hD := hD0.self (sz := s.heap.size)
  clear hD0
  generalize hAe : va_A [] s.heap.size = A at hD ⊢
  have hA : ∀ q : Nat, s.heap.size ≤ q → A q := fun q h => by rw [← hAe]; exact Or.inr h
  clear hAe
  have hS : va_S A s.heap s.heap [] := va_S.rf
  have hl := lv_entry ([.int a0, .int a1, .int a2, .int a3, .int a4]) (n := 9) (Nat.le_of_ble_eq_true rfl)
  rw [lg_entry_eq]
  generalize (lg_sl ([.int a0, .int a1, .int a2, .int a3, .int a4]) ++ List.replicate (9 - (lg_sl ([.int a0, .int a1, .int a2, .int a3, .int a4])).length) Slot.unset).toArray = ls at hl ⊢
  have hl : lv_has ls 9 [(0, .int a0), (1, .int a1), (2, .int a2), (3, .int a3), (4, .int a4)] := hl
  unfold f_X6_written at hf
  refine lv_iconst (v := 0) hx hb dX6_written_0 (by decide) ?_
  refine lv_istore (lv' := [(5, .int (0:Int32)), (0, .int a0), (1, .int a1), (2, .int a2), (3, .int a3), (4, .int a4)]) hx hb dX6_written_1 hl (by decide) rfl (fun ls hl => ?_)
  refine lv_iconst (v := 0) hx hb dX6_written_3 (by decide) ?_
  refine lv_istore (lv' := [(6, .int (0:Int32)), (5, .int (0:Int32)), (0, .int a0), (1, .int a1), (2, .int a2), (3, .int a3), (4, .int a4)]) hx hb dX6_written_4 hl (by decide) rfl (fun ls hl => ?_)
  have ex6 : ∀ (z5_6 : Int32) (z6_6 : Int32) (H : Heap) (locs : List Loc) (ls : Array Slot), va_P (dC, dI) vwCl [] H → va_D A [] → va_S A s.heap H locs → lv_has ls 9 [(6, .int z6_6), (5, .int z5_6), (0, .int a0), (1, .int a1), (2, .int a2), (3, .int a3), (4, .int a4)] → (some z5_6) = some R → W p l e (rm_X6_written) s m ([.int a0, .int a1, .int a2, .int a3, .int a4] : List Value).toArray below meth c H locs 0 0 (MQ below (q_X6_written dC dI cI cJ cZ  R A) ([.int a0, .int a1, .int a2, .int a3, .int a4] : List Value).toArray s 0 0 A) (F0 m 84 ls []) := by
    intro z5_6 z6_6 H locs ls hP hD hS hl hf
    refine lv_iload hx hb dX6_written_84 (lv_at hl 1 rfl) ?_
    have he := Option.some.inj hf
    have hP9 := hP
    have hD9 := hD
    exact W.iret (v := z5_6) hx hb hr (fun t eth hW => ⟨⟨z5_6, (), rfl, he.symm, by rw [eth]; exact hP9, va_K.moved hW.alike hK, hD9⟩, hS.F eth⟩) hS.2.2 dX6_written_86
  have lp6 : ∀ (n6 : Nat) (y5_6 : Int32) (y6_6 : Int32) (H : Heap) (locs : List Loc) (ls : Array Slot), va_P (dC, dI) vwCl [] H → va_D A [] → va_S A s.heap H locs → lv_has ls 9 [(6, .int y6_6), (5, .int y5_6), (0, .int a0), (1, .int a1), (2, .int a2), (3, .int a3), (4, .int a4)] → f_X6_written_6 N a0 a1 a2 a3 a4 (fun z5_6 z6_6 => some z5_6) n6 y5_6 y6_6 = some R → W p l e (rm_X6_written) s m ([.int a0, .int a1, .int a2, .int a3, .int a4] : List Value).toArray below meth c H locs 0 0 (MQ below (q_X6_written dC dI cI cJ cZ  R A) ([.int a0, .int a1, .int a2, .int a3, .int a4] : List Value).toArray s 0 0 A) (F0 m 6 ls []) := by
    intro n6
    induction n6 with
    | zero => intro y5_6 y6_6 H locs ls hP hD hS hl hf; rw [f_X6_written_6] at hf; cases hf
    | succ n6 ih6 =>
      intro y5_6 y6_6 H locs ls hP hD hS hl hf
      rw [f_X6_written_6] at hf
      refine lv_iload hx hb dX6_written_6 (lv_at hl 0 rfl) ?_
      refine lv_iload_n hx hb dX6_written_8 rfl (lv_at hl 2 rfl) ?_
      obtain ⟨x1, hx1, hf⟩ := dg_bind hf
      have hPc : va_P (dC, dI) vwCl [] H := hP.sub [] rfl
      have hDc : va_D A [] := hD.sub [] (by decide) rfl
      have hFc := va_free (wc := []) hD hS hA [] rfl
      refine va_calli (va_runS (As := [.int a0]) (rest := [.int y6_6]) ⟨hx, hb, hml, hown, hts⟩ (k_X6_wordsOf l dC dI cI cJ cZ H.size a0 N x1 hx1) (va_cwS 1 hts gX6_written_X6_wordsOf rfl rfl rfl hd_X6_wordsOf ⟨Nat.le_of_ble_eq_true rfl, Nat.le_of_ble_eq_true rfl⟩) ⟨blind_pc, pre_pc hPc hK hDc⟩ rfl rfl hl.1 rfl (lv_room (Nat.le_of_ble_eq_true rfl)) dX6_written_9 ⟨Nat.zero_le _, Nat.zero_le _⟩) hS (fun q _ h => hFc q h) hFc (fun r u t H1 locs eth hvm hw hB hz1 hk1 hS => ?_)
      obtain ⟨hP1, hK1, hD1⟩ := hB
      rw [eth] at hP1
      subst hw
      obtain ⟨hP, hD⟩ := va_join (wr := []) (w1 := []) hP hD [] [] rfl rfl (by decide) (by decide) hk1 hFc hP1 hD1
      clear hP1 hK1 hD1 hPc hDc hFc hk1 hz1 hvm eth
      generalize H1 = H at hP hS ⊢
      have hP : va_P (dC, dI) vwCl [] H := hP
      have hD : va_D A [] := hD
      refine lv_icmp_ge (tgt := 84) hx hb dX6_written_12 (by decide) (fun c2 => ?_) (fun c2 => ?_)
      · replace hf := dg_t c2 hf
        exact ex6 y5_6 y6_6 _ _ _ hP hD hS (lv_sub hl [0, 1, 2, 3, 4, 5, 6] rfl) hf
      · replace hf := dg_f c2 hf
        refine lv_iload_n hx hb dX6_written_15 rfl (lv_at hl 2 rfl) ?_
        refine lv_iload hx hb dX6_written_16 (lv_at hl 0 rfl) ?_
        obtain ⟨x3, hx3, hf⟩ := dg_bind hf
        have hPc : va_P (dC, dI) vwCl [] H := hP.sub [] rfl
        have hDc : va_D A [] := hD.sub [] (by decide) rfl
        have hFc := va_free (wc := []) hD hS hA [] rfl
        refine va_calli (va_runS (As := [.int a0, .int y6_6]) (rest := []) ⟨hx, hb, hml, hown, hts⟩ (k_X6_wordAt l dC dI cI cJ cZ H.size a0 y6_6 N x3 hx3) (va_cwS 2 hts gX6_written_X6_wordAt rfl rfl rfl hd_X6_wordAt ⟨Nat.le_of_ble_eq_true rfl, Nat.le_of_ble_eq_true rfl⟩) ⟨blind_pc, pre_pc hPc hK hDc⟩ rfl rfl hl.1 rfl (lv_room (Nat.le_of_ble_eq_true rfl)) dX6_written_18 ⟨Nat.zero_le _, Nat.zero_le _⟩) hS (fun q _ h => hFc q h) hFc (fun r u t H1 locs eth hvm hw hB hz1 hk1 hS => ?_)
        obtain ⟨hP1, hK1, hD1⟩ := hB
        rw [eth] at hP1
        subst hw
        obtain ⟨hP, hD⟩ := va_join (wr := []) (w1 := []) hP hD [] [] rfl rfl (by decide) (by decide) hk1 hFc hP1 hD1
        clear hP1 hK1 hD1 hPc hDc hFc hk1 hz1 hvm eth
        generalize H1 = H at hP hS ⊢
        have hP : va_P (dC, dI) vwCl [] H := hP
        have hD : va_D A [] := hD
        refine lv_istore (lv' := [(7, .int x3), (6, .int y6_6), (5, .int y5_6), (0, .int a0), (1, .int a1), (2, .int a2), (3, .int a3), (4, .int a4)]) hx hb dX6_written_21 hl (by decide) rfl (fun ls hl => ?_)
        refine lv_iload hx hb dX6_written_23 (lv_at hl 1 rfl) ?_
        refine lv_iload hx hb dX6_written_25 (lv_at hl 7 rfl) ?_
        refine lv_icmp_le (tgt := 45) hx hb dX6_written_27 (by decide) (fun c4 => ?_) (fun c4 => ?_)
        · replace hf := dg_t c4 hf
          refine lv_iconst (v := 0) hx hb dX6_written_45 (by decide) ?_
          refine lv_istore (lv' := [(8, .int (0:Int32)), (7, .int x3), (6, .int y6_6), (5, .int y5_6), (0, .int a0), (1, .int a1), (2, .int a2), (3, .int a3), (4, .int a4)]) hx hb dX6_written_46 hl (by decide) rfl (fun ls hl => ?_)
          refine lv_iload hx hb dX6_written_48 (lv_at hl 0 rfl) ?_
          refine lv_if_ne (tgt := 78) hx hb dX6_written_50 (by decide) (fun c5 => absurd (by decide) c5) (fun c5 => ?_)
          refine lv_iload hx hb dX6_written_53 (lv_at hl 1 rfl) ?_
          refine lv_iload_n hx hb dX6_written_55 rfl (lv_at hl 5 rfl) ?_
          refine lv_icmp_eq (tgt := 78) hx hb dX6_written_56 (by decide) (fun c6 => ?_) (fun c6 => ?_)
          · replace hf := dg_t c6 hf
            refine lv_iinc (v := (y6_6 + (1:Int32))) (lv' := [(6, .int (y6_6 + (1:Int32))), (8, .int (0:Int32)), (7, .int x3), (5, .int y5_6), (0, .int a0), (1, .int a1), (2, .int a2), (3, .int a3), (4, .int a4)]) hx hb dX6_written_78 hl (k := 2) rfl (by first | rfl | decide) (by decide) rfl (fun ls hl => ?_)
            refine lv_goto (tgt := 6) hx hb dX6_written_81 (by decide) ?_
            exact ih6 y5_6 (y6_6 + (1:Int32)) _ _ _ hP hD hS (lv_sub hl [0, 3, 4, 5, 6, 7, 8] rfl) hf
          · replace hf := dg_f c6 hf
            refine lv_iload hx hb dX6_written_59 (lv_at hl 3 rfl) ?_
            refine lv_iload hx hb dX6_written_61 (lv_at hl 1 rfl) ?_
            refine lv_iload_n hx hb dX6_written_63 rfl (lv_at hl 6 rfl) ?_
            refine lv_icmp_ne (tgt := 71) hx hb dX6_written_64 (by decide) (fun c7 => ?_) (fun c7 => ?_)
            · replace hf := dg_f c7 hf
              refine lv_iload hx hb dX6_written_71 (lv_at hl 1 rfl) ?_
              obtain ⟨x8, hx8, hf⟩ := dg_bind hf
              have hPc : va_P (dC, dI) vwCl [] H := hP.sub [] rfl
              have hDc : va_D A [] := hD.sub [] (by decide) rfl
              have hFc := va_free (wc := []) hD hS hA [] rfl
              refine va_calli (va_runS (As := [.int y5_6, .int x3]) (rest := []) ⟨hx, hb, hml, hown, hts⟩ (k_X6_withWord l dC dI cI cJ cZ H.size y5_6 x3 N x8 hx8) (va_cwS 2 hts gX6_written_X6_withWord rfl rfl rfl hd_X6_withWord ⟨Nat.le_of_ble_eq_true rfl, Nat.le_of_ble_eq_true rfl⟩) ⟨blind_pc, pre_pc hPc hK hDc⟩ rfl rfl hl.1 rfl (lv_room (Nat.le_of_ble_eq_true rfl)) dX6_written_73 ⟨Nat.zero_le _, Nat.zero_le _⟩) hS (fun q _ h => hFc q h) hFc (fun r u t H1 locs eth hvm hw hB hz1 hk1 hS => ?_)
              obtain ⟨hP1, hK1, hD1⟩ := hB
              rw [eth] at hP1
              subst hw
              obtain ⟨hP, hD⟩ := va_join (wr := []) (w1 := []) hP hD [] [] rfl rfl (by decide) (by decide) hk1 hFc hP1 hD1
              clear hP1 hK1 hD1 hPc hDc hFc hk1 hz1 hvm eth
              generalize H1 = H at hP hS ⊢
              have hP : va_P (dC, dI) vwCl [] H := hP
              have hD : va_D A [] := hD
              refine lv_istore (lv' := [(5, .int x8), (8, .int (0:Int32)), (7, .int x3), (6, .int y6_6), (0, .int a0), (1, .int a1), (2, .int a2), (3, .int a3), (4, .int a4)]) hx hb dX6_written_76 hl (by decide) rfl (fun ls hl => ?_)
              refine lv_iinc (v := (y6_6 + (1:Int32))) (lv' := [(6, .int (y6_6 + (1:Int32))), (5, .int x8), (8, .int (0:Int32)), (7, .int x3), (0, .int a0), (1, .int a1), (2, .int a2), (3, .int a3), (4, .int a4)]) hx hb dX6_written_78 hl (k := 3) rfl (by first | rfl | decide) (by decide) rfl (fun ls hl => ?_)
              refine lv_goto (tgt := 6) hx hb dX6_written_81 (by decide) ?_
              exact ih6 x8 (y6_6 + (1:Int32)) _ _ _ hP hD hS (lv_sub hl [0, 1, 4, 5, 6, 7, 8] rfl) hf
            · replace hf := dg_t c7 hf
              refine lv_iload_n hx hb dX6_written_67 rfl (lv_at hl 7 rfl) ?_
              refine lv_goto (tgt := 73) hx hb dX6_written_68 (by decide) ?_
              obtain ⟨x9, hx9, hf⟩ := dg_bind hf
              have hPc : va_P (dC, dI) vwCl [] H := hP.sub [] rfl
              have hDc : va_D A [] := hD.sub [] (by decide) rfl
              have hFc := va_free (wc := []) hD hS hA [] rfl
              refine va_calli (va_runS (As := [.int y5_6, .int a3]) (rest := []) ⟨hx, hb, hml, hown, hts⟩ (k_X6_withWord l dC dI cI cJ cZ H.size y5_6 a3 N x9 hx9) (va_cwS 2 hts gX6_written_X6_withWord rfl rfl rfl hd_X6_withWord ⟨Nat.le_of_ble_eq_true rfl, Nat.le_of_ble_eq_true rfl⟩) ⟨blind_pc, pre_pc hPc hK hDc⟩ rfl rfl hl.1 rfl (lv_room (Nat.le_of_ble_eq_true rfl)) dX6_written_73 ⟨Nat.zero_le _, Nat.zero_le _⟩) hS (fun q _ h => hFc q h) hFc (fun r u t H1 locs eth hvm hw hB hz1 hk1 hS => ?_)
              obtain ⟨hP1, hK1, hD1⟩ := hB
              rw [eth] at hP1
              subst hw
              obtain ⟨hP, hD⟩ := va_join (wr := []) (w1 := []) hP hD [] [] rfl rfl (by decide) (by decide) hk1 hFc hP1 hD1
              clear hP1 hK1 hD1 hPc hDc hFc hk1 hz1 hvm eth
              generalize H1 = H at hP hS ⊢
              have hP : va_P (dC, dI) vwCl [] H := hP
              have hD : va_D A [] := hD
              refine lv_istore (lv' := [(5, .int x9), (8, .int (0:Int32)), (7, .int x3), (6, .int y6_6), (0, .int a0), (1, .int a1), (2, .int a2), (3, .int a3), (4, .int a4)]) hx hb dX6_written_76 hl (by decide) rfl (fun ls hl => ?_)
              refine lv_iinc (v := (y6_6 + (1:Int32))) (lv' := [(6, .int (y6_6 + (1:Int32))), (5, .int x9), (8, .int (0:Int32)), (7, .int x3), (0, .int a0), (1, .int a1), (2, .int a2), (3, .int a3), (4, .int a4)]) hx hb dX6_written_78 hl (k := 3) rfl (by first | rfl | decide) (by decide) rfl (fun ls hl => ?_)
              refine lv_goto (tgt := 6) hx hb dX6_written_81 (by decide) ?_
              exact ih6 x9 (y6_6 + (1:Int32)) _ _ _ hP hD hS (lv_sub hl [0, 1, 4, 5, 6, 7, 8] rfl) hf
        · replace hf := dg_f c4 hf
          refine lv_iload hx hb dX6_written_30 (lv_at hl 1 rfl) ?_
          refine lv_iload hx hb dX6_written_32 (lv_at hl 7 rfl) ?_
          refine lv_isub hx hb dX6_written_34 ?_
          refine lv_iconst (v := 2) hx hb dX6_written_35 (by decide) ?_
          refine lv_irem hx hb dX6_written_36 (by decide) ?_
          refine lv_iconst (v := 1) hx hb dX6_written_37 (by decide) ?_
          refine lv_icmp_ne (tgt := 45) hx hb dX6_written_38 (by decide) (fun c10 => ?_) (fun c10 => ?_)
          · replace hf := dg_f c10 hf
            refine lv_iconst (v := 0) hx hb dX6_written_45 (by decide) ?_
            refine lv_istore (lv' := [(8, .int (0:Int32)), (7, .int x3), (6, .int y6_6), (5, .int y5_6), (0, .int a0), (1, .int a1), (2, .int a2), (3, .int a3), (4, .int a4)]) hx hb dX6_written_46 hl (by decide) rfl (fun ls hl => ?_)
            refine lv_iload hx hb dX6_written_48 (lv_at hl 0 rfl) ?_
            refine lv_if_ne (tgt := 78) hx hb dX6_written_50 (by decide) (fun c11 => absurd (by decide) c11) (fun c11 => ?_)
            refine lv_iload hx hb dX6_written_53 (lv_at hl 1 rfl) ?_
            refine lv_iload_n hx hb dX6_written_55 rfl (lv_at hl 5 rfl) ?_
            refine lv_icmp_eq (tgt := 78) hx hb dX6_written_56 (by decide) (fun c12 => ?_) (fun c12 => ?_)
            · replace hf := dg_t c12 hf
              refine lv_iinc (v := (y6_6 + (1:Int32))) (lv' := [(6, .int (y6_6 + (1:Int32))), (8, .int (0:Int32)), (7, .int x3), (5, .int y5_6), (0, .int a0), (1, .int a1), (2, .int a2), (3, .int a3), (4, .int a4)]) hx hb dX6_written_78 hl (k := 2) rfl (by first | rfl | decide) (by decide) rfl (fun ls hl => ?_)
              refine lv_goto (tgt := 6) hx hb dX6_written_81 (by decide) ?_
              exact ih6 y5_6 (y6_6 + (1:Int32)) _ _ _ hP hD hS (lv_sub hl [0, 3, 4, 5, 6, 7, 8] rfl) hf
            · replace hf := dg_f c12 hf
              refine lv_iload hx hb dX6_written_59 (lv_at hl 3 rfl) ?_
              refine lv_iload hx hb dX6_written_61 (lv_at hl 1 rfl) ?_
              refine lv_iload_n hx hb dX6_written_63 rfl (lv_at hl 6 rfl) ?_
              refine lv_icmp_ne (tgt := 71) hx hb dX6_written_64 (by decide) (fun c13 => ?_) (fun c13 => ?_)
              · replace hf := dg_f c13 hf
                refine lv_iload hx hb dX6_written_71 (lv_at hl 1 rfl) ?_
                obtain ⟨x14, hx14, hf⟩ := dg_bind hf
                have hPc : va_P (dC, dI) vwCl [] H := hP.sub [] rfl
                have hDc : va_D A [] := hD.sub [] (by decide) rfl
                have hFc := va_free (wc := []) hD hS hA [] rfl
                refine va_calli (va_runS (As := [.int y5_6, .int x3]) (rest := []) ⟨hx, hb, hml, hown, hts⟩ (k_X6_withWord l dC dI cI cJ cZ H.size y5_6 x3 N x14 hx14) (va_cwS 2 hts gX6_written_X6_withWord rfl rfl rfl hd_X6_withWord ⟨Nat.le_of_ble_eq_true rfl, Nat.le_of_ble_eq_true rfl⟩) ⟨blind_pc, pre_pc hPc hK hDc⟩ rfl rfl hl.1 rfl (lv_room (Nat.le_of_ble_eq_true rfl)) dX6_written_73 ⟨Nat.zero_le _, Nat.zero_le _⟩) hS (fun q _ h => hFc q h) hFc (fun r u t H1 locs eth hvm hw hB hz1 hk1 hS => ?_)
                obtain ⟨hP1, hK1, hD1⟩ := hB
                rw [eth] at hP1
                subst hw
                obtain ⟨hP, hD⟩ := va_join (wr := []) (w1 := []) hP hD [] [] rfl rfl (by decide) (by decide) hk1 hFc hP1 hD1
                clear hP1 hK1 hD1 hPc hDc hFc hk1 hz1 hvm eth
                generalize H1 = H at hP hS ⊢
                have hP : va_P (dC, dI) vwCl [] H := hP
                have hD : va_D A [] := hD
                refine lv_istore (lv' := [(5, .int x14), (8, .int (0:Int32)), (7, .int x3), (6, .int y6_6), (0, .int a0), (1, .int a1), (2, .int a2), (3, .int a3), (4, .int a4)]) hx hb dX6_written_76 hl (by decide) rfl (fun ls hl => ?_)
                refine lv_iinc (v := (y6_6 + (1:Int32))) (lv' := [(6, .int (y6_6 + (1:Int32))), (5, .int x14), (8, .int (0:Int32)), (7, .int x3), (0, .int a0), (1, .int a1), (2, .int a2), (3, .int a3), (4, .int a4)]) hx hb dX6_written_78 hl (k := 3) rfl (by first | rfl | decide) (by decide) rfl (fun ls hl => ?_)
                refine lv_goto (tgt := 6) hx hb dX6_written_81 (by decide) ?_
                exact ih6 x14 (y6_6 + (1:Int32)) _ _ _ hP hD hS (lv_sub hl [0, 1, 4, 5, 6, 7, 8] rfl) hf
              · replace hf := dg_t c13 hf
                refine lv_iload_n hx hb dX6_written_67 rfl (lv_at hl 7 rfl) ?_
                refine lv_goto (tgt := 73) hx hb dX6_written_68 (by decide) ?_
                obtain ⟨x15, hx15, hf⟩ := dg_bind hf
                have hPc : va_P (dC, dI) vwCl [] H := hP.sub [] rfl
                have hDc : va_D A [] := hD.sub [] (by decide) rfl
                have hFc := va_free (wc := []) hD hS hA [] rfl
                refine va_calli (va_runS (As := [.int y5_6, .int a3]) (rest := []) ⟨hx, hb, hml, hown, hts⟩ (k_X6_withWord l dC dI cI cJ cZ H.size y5_6 a3 N x15 hx15) (va_cwS 2 hts gX6_written_X6_withWord rfl rfl rfl hd_X6_withWord ⟨Nat.le_of_ble_eq_true rfl, Nat.le_of_ble_eq_true rfl⟩) ⟨blind_pc, pre_pc hPc hK hDc⟩ rfl rfl hl.1 rfl (lv_room (Nat.le_of_ble_eq_true rfl)) dX6_written_73 ⟨Nat.zero_le _, Nat.zero_le _⟩) hS (fun q _ h => hFc q h) hFc (fun r u t H1 locs eth hvm hw hB hz1 hk1 hS => ?_)
                obtain ⟨hP1, hK1, hD1⟩ := hB
                rw [eth] at hP1
                subst hw
                obtain ⟨hP, hD⟩ := va_join (wr := []) (w1 := []) hP hD [] [] rfl rfl (by decide) (by decide) hk1 hFc hP1 hD1
                clear hP1 hK1 hD1 hPc hDc hFc hk1 hz1 hvm eth
                generalize H1 = H at hP hS ⊢
                have hP : va_P (dC, dI) vwCl [] H := hP
                have hD : va_D A [] := hD
                refine lv_istore (lv' := [(5, .int x15), (8, .int (0:Int32)), (7, .int x3), (6, .int y6_6), (0, .int a0), (1, .int a1), (2, .int a2), (3, .int a3), (4, .int a4)]) hx hb dX6_written_76 hl (by decide) rfl (fun ls hl => ?_)
                refine lv_iinc (v := (y6_6 + (1:Int32))) (lv' := [(6, .int (y6_6 + (1:Int32))), (5, .int x15), (8, .int (0:Int32)), (7, .int x3), (0, .int a0), (1, .int a1), (2, .int a2), (3, .int a3), (4, .int a4)]) hx hb dX6_written_78 hl (k := 3) rfl (by first | rfl | decide) (by decide) rfl (fun ls hl => ?_)
                refine lv_goto (tgt := 6) hx hb dX6_written_81 (by decide) ?_
                exact ih6 x15 (y6_6 + (1:Int32)) _ _ _ hP hD hS (lv_sub hl [0, 1, 4, 5, 6, 7, 8] rfl) hf
          · replace hf := dg_t c10 hf
            refine lv_iconst (v := 1) hx hb dX6_written_41 (by decide) ?_
            refine lv_goto (tgt := 46) hx hb dX6_written_42 (by decide) ?_
            refine lv_istore (lv' := [(8, .int (1:Int32)), (7, .int x3), (6, .int y6_6), (5, .int y5_6), (0, .int a0), (1, .int a1), (2, .int a2), (3, .int a3), (4, .int a4)]) hx hb dX6_written_46 hl (by decide) rfl (fun ls hl => ?_)
            refine lv_iload hx hb dX6_written_48 (lv_at hl 0 rfl) ?_
            refine lv_if_ne (tgt := 78) hx hb dX6_written_50 (by decide) (fun c16 => ?_) (fun c16 => absurd c16 (by decide))
            refine lv_iinc (v := (y6_6 + (1:Int32))) (lv' := [(6, .int (y6_6 + (1:Int32))), (8, .int (1:Int32)), (7, .int x3), (5, .int y5_6), (0, .int a0), (1, .int a1), (2, .int a2), (3, .int a3), (4, .int a4)]) hx hb dX6_written_78 hl (k := 2) rfl (by first | rfl | decide) (by decide) rfl (fun ls hl => ?_)
            refine lv_goto (tgt := 6) hx hb dX6_written_81 (by decide) ?_
            exact ih6 y5_6 (y6_6 + (1:Int32)) _ _ _ hP hD hS (lv_sub hl [0, 3, 4, 5, 6, 7, 8] rfl) hf
  exact lp6 N (0:Int32) (0:Int32) _ _ _ hP hD hS hl hf
