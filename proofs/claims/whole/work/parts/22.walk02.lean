theorem hd_X2_firstFault : yX2_firstFault.cls = RX2 ∧ yX2_firstFault.cls ≠ "java/lang/invoke/MethodHandle" ∧ yX2_firstFault.cls ≠ "java/lang/invoke/VarHandle" ∧ (parseMethodDescriptor yX2_firstFault.desc).map (fun d => d.parameters.length) = some 0 := by decide +kernel
abbrev rm_X2_firstFault : Room := { frames := 3, cells := 0, slots := 0, locals := 64 }
abbrev q_X2_firstFault (dC : Nat → ClassId) (dI : Nat → Nat → Nat) (cI cJ cZ : ClassId) (ht ht_letters : Nat) (vt_size : Int32) (vt_letters : Nat → Int32) (R : Int32) (A : Nat → Prop) : Array Value → State → Outcome → State → Prop := va_Qi (fun (r : Int32) (_ : Unit) => R = r) (fun (u : Unit) (t : State) => va_P (dC, dI) vwCl [(ht, .inr (2, [.ref ht_letters, .int vt_size])), (ht_letters, .inl (cI, 32, .inl vt_letters))] t.heap ∧ va_K (dC, dI) vwCl [(cI, .int), (cJ, .long), (cZ, .boolean)] t ∧ va_D A [(ht, .inr (2, [.ref ht_letters, .int vt_size])), (ht_letters, .inl (cI, 32, .inl vt_letters))]) A
set_option maxHeartbeats 4000000 in
set_option maxRecDepth 100000 in
theorem k_X2_firstFault (l : Launch) (dC : Nat → ClassId) (dI : Nat → Nat → Nat) (cI cJ cZ : ClassId) (sz : Nat) (ht ht_letters : Nat) (vt_size : Int32) (vt_letters : Nat → Int32) (N : Nat) (R : Int32) (hf : f_X2_firstFault N vt_size vt_letters = some R) : Met l yX2_firstFault wsX2_firstFault (rm_X2_firstFault) (va_Pc [.ref ht] (fun U => U.heap.size = sz ∧ va_P (dC, dI) vwCl [(ht, .inr (2, [.ref ht_letters, .int vt_size])), (ht_letters, .inl (cI, 32, .inl vt_letters))] U.heap ∧ va_K (dC, dI) vwCl [(cI, .int), (cJ, .long), (cZ, .boolean)] U ∧ va_D (fun _ => True) [(ht, .inr (2, [.ref ht_letters, .int vt_size])), (ht_letters, .inl (cI, 32, .inl vt_letters))])) (q_X2_firstFault dC dI cI cJ cZ ht ht_letters vt_size vt_letters R (va_A [(ht, .inr (2, [.ref ht_letters, .int vt_size])), (ht_letters, .inl (cI, 32, .inl vt_letters))] sz)) 0 0 (va_A [(ht, .inr (2, [.ref ht_letters, .int vt_size])), (ht_letters, .inl (cI, 32, .inl vt_letters))] sz) := by
  refine Met.ofW (cc := cX2_firstFault) (maxL := 2) (ret := (some .int)) (by decide) rfl ?_
  intro p e s m args below meth c s₁ B hml hv
  obtain ⟨rfl, hsz, hP, hK, hD0⟩ := hv
  have hx := B.exec
  have hb := B.bytes
  have hr := B.returns
  have hts := atoms_spec (ws := wsX2_firstFault) B.pre
  have hown : s.vm.findClass RX2 = some m.cls := findClass_of_methodNamed B.named
  have hlocks := B.notSynchronized
  clear B
  subst hsz
  have hw0 := hts (.fieldLink RX2 15 "ShorthandCourt$CourtText" "size" "I") (by decide +kernel)
  have hinX2 : ∀ w ∈ u_ws RX2 TX2 2, w ∈ wsX2_firstFault := by decide +kernel
  have hD := hD0.self (sz := s.heap.size)
  clear hD0
  generalize hAe : va_A [(ht, .inr (2, [.ref ht_letters, .int vt_size])), (ht_letters, .inl (cI, 32, .inl vt_letters))] s.heap.size = A at hD ⊢
  have hA : ∀ q : Nat, s.heap.size ≤ q → A q := fun q h => by rw [← hAe]; exact Or.inr h
  clear hAe
  have hS : va_S A s.heap s.heap [] := va_S.rf
  have hl := lv_entry ([.ref ht]) (n := 2) (Nat.le_of_ble_eq_true rfl)
  rw [lg_entry_eq]
  generalize (lg_sl ([.ref ht]) ++ List.replicate (2 - (lg_sl ([.ref ht])).length) Slot.unset).toArray = ls at hl ⊢
  have hl : lv_has ls 2 [(0, .ref ht)] := hl
  unfold f_X2_firstFault at hf
  refine lv_iconst (v := 0) hx hb dX2_firstFault_0 (by decide) ?_
  refine lv_istore_n (lv' := [(1, .int (0:Int32)), (0, .ref ht)]) hx hb dX2_firstFault_1 rfl hl (by decide) rfl (fun ls hl => ?_)
  have ex2 : ∀ (z1_2 : Int32) (H : Heap) (locs : List Loc) (ls : Array Slot), va_P (dC, dI) vwCl [(ht, .inr (2, [.ref ht_letters, .int vt_size])), (ht_letters, .inl (cI, 32, .inl vt_letters))] H → va_D A [(ht, .inr (2, [.ref ht_letters, .int vt_size])), (ht_letters, .inl (cI, 32, .inl vt_letters))] → va_S A s.heap H locs → lv_has ls 2 [(1, .int z1_2), (0, .ref ht)] → (if vt_size ≤ (0:Int32) then some vt_size else if ((vt_size - (1:Int32)) - (vt_size - (1:Int32)) / (6:Int32) * (6:Int32)) = (0:Int32) then some (-9:Int32) else some vt_size) = some R → W p l e (rm_X2_firstFault) s m ([.ref ht] : List Value).toArray below meth c H locs 0 0 (MQ below (q_X2_firstFault dC dI cI cJ cZ ht ht_letters vt_size vt_letters R A) ([.ref ht] : List Value).toArray s 0 0 A) (F0 m 26 ls []) := by
    intro z1_2 H locs ls hP hD hS hl hf
    refine lv_aload_n hx hb dX2_firstFault_26 rfl (lv_at hl 1 rfl) ?_
    refine va_get (D := (dC, dI)) (ci := 2) (v := .int vt_size) (C := RX2) (T := TX2) (N := 2) hx hb hts hinX2 hown hK hP 0 rfl rfl 1 (by decide) hw0 (fun _ h9 => h9) rfl dX2_firstFault_27 ?_
    refine lv_if_le (tgt := 49) hx hb dX2_firstFault_30 (by decide) (fun c1 => ?_) (fun c1 => ?_)
    · replace hf := dg_t c1 hf
      refine lv_iconst (v := 0) hx hb dX2_firstFault_49 (by decide) ?_
      refine lv_istore_n (lv' := [(1, .int (0:Int32)), (0, .ref ht)]) hx hb dX2_firstFault_50 rfl hl (by decide) rfl (fun ls hl => ?_)
      refine lv_iload_n hx hb dX2_firstFault_51 rfl (lv_at hl 0 rfl) ?_
      refine lv_if_eq (tgt := 60) hx hb dX2_firstFault_52 (by decide) (fun c2 => ?_) (fun c2 => absurd (by decide) c2)
      refine lv_aload_n hx hb dX2_firstFault_60 rfl (lv_at hl 1 rfl) ?_
      refine va_get (D := (dC, dI)) (ci := 2) (v := .int vt_size) (C := RX2) (T := TX2) (N := 2) hx hb hts hinX2 hown hK hP 0 rfl rfl 1 (by decide) hw0 (fun _ h9 => h9) rfl dX2_firstFault_61 ?_
      have he := Option.some.inj hf
      have hP9 := hP
      have hD9 := hD
      exact W.iret (v := vt_size) hx hb hr (fun t eth hW => ⟨⟨vt_size, (), rfl, he.symm, by rw [eth]; exact hP9, va_K.moved hW.alike hK, hD9⟩, hS.F eth⟩) hS.2.2 dX2_firstFault_64
    · replace hf := dg_f c1 hf
      refine lv_aload_n hx hb dX2_firstFault_33 rfl (lv_at hl 1 rfl) ?_
      refine va_get (D := (dC, dI)) (ci := 2) (v := .int vt_size) (C := RX2) (T := TX2) (N := 2) hx hb hts hinX2 hown hK hP 0 rfl rfl 1 (by decide) hw0 (fun _ h9 => h9) rfl dX2_firstFault_34 ?_
      refine lv_iconst (v := 1) hx hb dX2_firstFault_37 (by decide) ?_
      refine lv_isub hx hb dX2_firstFault_38 ?_
      refine lv_bipush (v := 6) hx hb dX2_firstFault_39 (by decide) ?_
      refine lv_irem hx hb dX2_firstFault_41 (by decide) ?_
      refine lv_if_ne (tgt := 49) hx hb dX2_firstFault_42 (by decide) (fun c3 => ?_) (fun c3 => ?_)
      · replace hf := dg_f c3 hf
        refine lv_iconst (v := 0) hx hb dX2_firstFault_49 (by decide) ?_
        refine lv_istore_n (lv' := [(1, .int (0:Int32)), (0, .ref ht)]) hx hb dX2_firstFault_50 rfl hl (by decide) rfl (fun ls hl => ?_)
        refine lv_iload_n hx hb dX2_firstFault_51 rfl (lv_at hl 0 rfl) ?_
        refine lv_if_eq (tgt := 60) hx hb dX2_firstFault_52 (by decide) (fun c4 => ?_) (fun c4 => absurd (by decide) c4)
        refine lv_aload_n hx hb dX2_firstFault_60 rfl (lv_at hl 1 rfl) ?_
        refine va_get (D := (dC, dI)) (ci := 2) (v := .int vt_size) (C := RX2) (T := TX2) (N := 2) hx hb hts hinX2 hown hK hP 0 rfl rfl 1 (by decide) hw0 (fun _ h9 => h9) rfl dX2_firstFault_61 ?_
        have he := Option.some.inj hf
        have hP9 := hP
        have hD9 := hD
        exact W.iret (v := vt_size) hx hb hr (fun t eth hW => ⟨⟨vt_size, (), rfl, he.symm, by rw [eth]; exact hP9, va_K.moved hW.alike hK, hD9⟩, hS.F eth⟩) hS.2.2 dX2_firstFault_64
      · replace hf := dg_t c3 hf
        refine lv_iconst (v := 1) hx hb dX2_firstFault_45 (by decide) ?_
        refine lv_goto (tgt := 50) hx hb dX2_firstFault_46 (by decide) ?_
        refine lv_istore_n (lv' := [(1, .int (1:Int32)), (0, .ref ht)]) hx hb dX2_firstFault_50 rfl hl (by decide) rfl (fun ls hl => ?_)
        refine lv_iload_n hx hb dX2_firstFault_51 rfl (lv_at hl 0 rfl) ?_
        refine lv_if_eq (tgt := 60) hx hb dX2_firstFault_52 (by decide) (fun c5 => absurd c5 (by decide)) (fun c5 => ?_)
        refine lv_bipush (v := -9) hx hb dX2_firstFault_55 (by decide) ?_
        refine lv_goto (tgt := 64) hx hb dX2_firstFault_57 (by decide) ?_
        have he := Option.some.inj hf
        have hP9 := hP
        have hD9 := hD
        exact W.iret (v := (-9:Int32)) hx hb hr (fun t eth hW => ⟨⟨(-9:Int32), (), rfl, he.symm, by rw [eth]; exact hP9, va_K.moved hW.alike hK, hD9⟩, hS.F eth⟩) hS.2.2 dX2_firstFault_64
  have lp2 : ∀ (n2 : Nat) (y1_2 : Int32) (H : Heap) (locs : List Loc) (ls : Array Slot), va_P (dC, dI) vwCl [(ht, .inr (2, [.ref ht_letters, .int vt_size])), (ht_letters, .inl (cI, 32, .inl vt_letters))] H → va_D A [(ht, .inr (2, [.ref ht_letters, .int vt_size])), (ht_letters, .inl (cI, 32, .inl vt_letters))] → va_S A s.heap H locs → lv_has ls 2 [(1, .int y1_2), (0, .ref ht)] → f_X2_firstFault_2 N vt_size vt_letters (fun z1_2 => if vt_size ≤ (0:Int32) then some vt_size else if ((vt_size - (1:Int32)) - (vt_size - (1:Int32)) / (6:Int32) * (6:Int32)) = (0:Int32) then some (-9:Int32) else some vt_size) n2 y1_2 = some R → W p l e (rm_X2_firstFault) s m ([.ref ht] : List Value).toArray below meth c H locs 0 0 (MQ below (q_X2_firstFault dC dI cI cJ cZ ht ht_letters vt_size vt_letters R A) ([.ref ht] : List Value).toArray s 0 0 A) (F0 m 2 ls []) := by
    intro n2
    induction n2 with
    | zero => intro y1_2 H locs ls hP hD hS hl hf; rw [f_X2_firstFault_2] at hf; cases hf
    | succ n2 ih2 =>
      intro y1_2 H locs ls hP hD hS hl hf
      rw [f_X2_firstFault_2] at hf
      refine lv_iload_n hx hb dX2_firstFault_2 rfl (lv_at hl 0 rfl) ?_
      refine lv_aload_n hx hb dX2_firstFault_3 rfl (lv_at hl 1 rfl) ?_
      refine va_get (D := (dC, dI)) (ci := 2) (v := .int vt_size) (C := RX2) (T := TX2) (N := 2) hx hb hts hinX2 hown hK hP 0 rfl rfl 1 (by decide) hw0 (fun _ h9 => h9) rfl dX2_firstFault_4 ?_
      refine lv_icmp_ge (tgt := 26) hx hb dX2_firstFault_7 (by decide) (fun c6 => ?_) (fun c6 => ?_)
      · replace hf := dg_t c6 hf
        exact ex2 y1_2 _ _ _ hP hD hS (lv_sub hl [0, 1] rfl) hf
      · replace hf := dg_f c6 hf
        refine lv_aload_n hx hb dX2_firstFault_10 rfl (lv_at hl 1 rfl) ?_
        refine lv_iload_n hx hb dX2_firstFault_11 rfl (lv_at hl 0 rfl) ?_
        obtain ⟨x7, hx7, hf⟩ := dg_bind hf
        have hPc : va_P (dC, dI) vwCl [(ht, .inr (2, [.ref ht_letters, .int vt_size])), (ht_letters, .inl (cI, 32, .inl vt_letters))] H := hP.sub [0, 1] rfl
        have hDc : va_D A [(ht, .inr (2, [.ref ht_letters, .int vt_size])), (ht_letters, .inl (cI, 32, .inl vt_letters))] := hD.sub [0, 1] (by decide) rfl
        have hFc := va_free (wc := [(ht, .inr (2, [.ref ht_letters, .int vt_size])), (ht_letters, .inl (cI, 32, .inl vt_letters))]) hD hS hA [0, 1] rfl
        refine va_calli (va_runV (As := [.int y1_2]) (rest := []) ⟨hx, hb, hml, hown, hts⟩ (k_X2_canStand l dC dI cI cJ cZ H.size ht ht_letters y1_2 vt_size vt_letters N x7 hx7) (cwV 1 hts gX2_firstFault_X2_canStand rfl rfl rfl hd_X2_canStand ⟨Nat.le_of_ble_eq_true rfl, Nat.le_of_ble_eq_true rfl⟩) ⟨blind_pc, va_recv hK hPc (ci := 2) (q0 := 0) rfl rfl, pre_pc hPc hK hDc⟩ rfl rfl hl.1 rfl (lv_room (Nat.le_of_ble_eq_true rfl)) dX2_firstFault_12 ⟨Nat.zero_le _, Nat.zero_le _⟩) hS (fun q _ h => hFc q h) hFc (fun r u t H1 locs eth hvm hw hB hz1 hk1 hS => ?_)
        obtain ⟨hP1, hK1, hD1⟩ := hB
        rw [eth] at hP1
        subst hw
        obtain ⟨hP, hD⟩ := va_join (wr := []) (w1 := [(ht, .inr (2, [.ref ht_letters, .int vt_size])), (ht_letters, .inl (cI, 32, .inl vt_letters))]) hP hD [0, 1] [] rfl rfl (by decide) (by decide) hk1 hFc hP1 hD1
        clear hP1 hK1 hD1 hPc hDc hFc hk1 hz1 hvm eth
        generalize H1 = H at hP hS ⊢
        have hP : va_P (dC, dI) vwCl [(ht, .inr (2, [.ref ht_letters, .int vt_size])), (ht_letters, .inl (cI, 32, .inl vt_letters))] H := hP
        have hD : va_D A [(ht, .inr (2, [.ref ht_letters, .int vt_size])), (ht_letters, .inl (cI, 32, .inl vt_letters))] := hD
        refine lv_if_ne (tgt := 20) hx hb dX2_firstFault_15 (by decide) (fun c8 => ?_) (fun c8 => ?_)
        · replace hf := dg_f c8 hf
          refine lv_iinc (v := (y1_2 + (1:Int32))) (lv' := [(1, .int (y1_2 + (1:Int32))), (0, .ref ht)]) hx hb dX2_firstFault_20 hl (k := 0) rfl (by first | rfl | decide) (by decide) rfl (fun ls hl => ?_)
          refine lv_goto (tgt := 2) hx hb dX2_firstFault_23 (by decide) ?_
          exact ih2 (y1_2 + (1:Int32)) _ _ _ hP hD hS (lv_sub hl [0, 1] rfl) hf
        · replace hf := dg_t c8 hf
          refine lv_iload_n hx hb dX2_firstFault_18 rfl (lv_at hl 0 rfl) ?_
          have he := Option.some.inj hf
          have hP9 := hP
          have hD9 := hD
          exact W.iret (v := y1_2) hx hb hr (fun t eth hW => ⟨⟨y1_2, (), rfl, he.symm, by rw [eth]; exact hP9, va_K.moved hW.alike hK, hD9⟩, hS.F eth⟩) hS.2.2 dX2_firstFault_19
  exact lp2 N (0:Int32) _ _ _ hP hD hS hl hf
theorem hd_J7_fill_d0a16 : yJ7_fill_d0a16.cls ≠ "java/lang/invoke/MethodHandle" ∧ yJ7_fill_d0a16.cls ≠ "java/lang/invoke/VarHandle" ∧ (parseMethodDescriptor yJ7_fill_d0a16.desc).map (fun d => d.parameters.length) = some 2 := by decide +kernel
abbrev rm_J7_fill_d0a16 : Room := { frames := 0, cells := 0, slots := 0, locals := 0 }
abbrev q_J7_fill_d0a16 (dC : Nat → ClassId) (dI : Nat → Nat → Nat) (cI cJ cZ : ClassId) (hp0 : Nat) (n_p0 : Nat) (R : (Nat → Int64)) (A : Nat → Prop) : Array Value → State → Outcome → State → Prop := va_Qv (fun (u : (Nat → Int64)) => R = u) (fun (u : (Nat → Int64)) (t : State) => va_P (dC, dI) vwCl [(hp0, .inl (cJ, n_p0, .inr (.inl u)))] t.heap ∧ va_K (dC, dI) vwCl [(cI, .int), (cJ, .long), (cZ, .boolean)] t ∧ va_D A [(hp0, .inl (cJ, n_p0, .inr (.inl u)))]) A
set_option maxHeartbeats 4000000 in
set_option maxRecDepth 100000 in
theorem k_J7_fill_d0a16 (l : Launch) (dC : Nat → ClassId) (dI : Nat → Nat → Nat) (cI cJ cZ : ClassId) (sz : Nat) (hp0 : Nat) (n_p0 : Nat) (a1 : Int64) (vp0 : Nat → Int64) (N : Nat) (R : (Nat → Int64)) (hf : f_J7_fill_d0a16 N a1 n_p0 vp0 = some R) : Met l yJ7_fill_d0a16 wsJ7_fill_d0a16 (rm_J7_fill_d0a16) (va_Pc [.ref hp0, .long a1] (fun U => U.heap.size = sz ∧ va_P (dC, dI) vwCl [(hp0, .inl (cJ, n_p0, .inr (.inl vp0)))] U.heap ∧ va_K (dC, dI) vwCl [(cI, .int), (cJ, .long), (cZ, .boolean)] U ∧ va_D (fun _ => True) [(hp0, .inl (cJ, n_p0, .inr (.inl vp0)))])) (q_J7_fill_d0a16 dC dI cI cJ cZ hp0 n_p0 R (va_A [(hp0, .inl (cJ, n_p0, .inr (.inl vp0)))] sz)) 0 0 (va_A [(hp0, .inl (cJ, n_p0, .inr (.inl vp0)))] sz) := by
  refine Met.ofW (cc := cJ7_fill_d0a16) (maxL := 5) (ret := none) (by decide) rfl ?_
  intro p e s m args below meth c s₁ B hml hv
  obtain ⟨rfl, hsz, hP, hK, hD0⟩ := hv
  have hx := B.exec
  have hb := B.bytes
  have hr := B.returns
  have hts := atoms_spec (ws := wsJ7_fill_d0a16) B.pre
  have hown : s.vm.findClass RJ7 = some m.cls := findClass_of_methodNamed B.named
  have hlocks := B.notSynchronized
  clear B
  subst hsz
  have hD := hD0.self (sz := s.heap.size)
  clear hD0
  generalize hAe : va_A [(hp0, .inl (cJ, n_p0, .inr (.inl vp0)))] s.heap.size = A at hD ⊢
  have hA : ∀ q : Nat, s.heap.size ≤ q → A q := fun q h => by rw [← hAe]; exact Or.inr h
  clear hAe
  have hS : va_S A s.heap s.heap [] := va_S.rf
  have hl := lv_entry ([.ref hp0, .long a1]) (n := 5) (Nat.le_of_ble_eq_true rfl)
  rw [lg_entry_eq]
  generalize (lg_sl ([.ref hp0, .long a1]) ++ List.replicate (5 - (lg_sl ([.ref hp0, .long a1])).length) Slot.unset).toArray = ls at hl ⊢
  have hl : lv_has ls 5 [(0, .ref hp0), (1, .long a1)] := hl
  unfold f_J7_fill_d0a16 at hf
  refine lv_iconst (v := 0) hx hb dJ7_fill_d0a16_0 (by decide) ?_
  refine lv_istore_n (lv' := [(3, .int (0:Int32)), (0, .ref hp0), (1, .long a1)]) hx hb dJ7_fill_d0a16_1 rfl hl (by decide) rfl (fun ls hl => ?_)
  refine lv_aload_n hx hb dJ7_fill_d0a16_2 rfl (lv_at hl 1 rfl) ?_
  refine va_alen (v := (Int32.ofNat n_p0)) hx hb hK hP 0 1 rfl rfl rfl dJ7_fill_d0a16_3 ?_
  refine lv_istore (lv' := [(4, .int (Int32.ofNat n_p0)), (3, .int (0:Int32)), (0, .ref hp0), (1, .long a1)]) hx hb dJ7_fill_d0a16_4 hl (by decide) rfl (fun ls hl => ?_)
  have ex6 : ∀ (z3_6 : Int32) (zvp0_6 : (Nat → Int64)) (H : Heap) (locs : List Loc) (ls : Array Slot), va_P (dC, dI) vwCl [(hp0, .inl (cJ, n_p0, .inr (.inl zvp0_6)))] H → va_D A [(hp0, .inl (cJ, n_p0, .inr (.inl zvp0_6)))] → va_S A s.heap H locs → lv_has ls 5 [(4, .int (Int32.ofNat n_p0)), (3, .int z3_6), (0, .ref hp0), (1, .long a1)] → (some zvp0_6) = some R → W p l e (rm_J7_fill_d0a16) s m ([.ref hp0, .long a1] : List Value).toArray below meth c H locs 0 0 (MQ below (q_J7_fill_d0a16 dC dI cI cJ cZ hp0 n_p0 R A) ([.ref hp0, .long a1] : List Value).toArray s 0 0 A) (F0 m 22 ls []) := by
    intro z3_6 zvp0_6 H locs ls hP hD hS hl hf
    have he := Option.some.inj hf
    have hP9 := hP
    have hD9 := hD
    exact W.vret hx hb hr (fun t eth hW => ⟨⟨zvp0_6, rfl, he.symm, by rw [eth]; exact hP9, va_K.moved hW.alike hK, hD9⟩, hS.F eth⟩) hS.2.2 dJ7_fill_d0a16_22
  have lp6 : ∀ (n6 : Nat) (y3_6 : Int32) (yvp0_6 : (Nat → Int64)) (H : Heap) (locs : List Loc) (ls : Array Slot), va_P (dC, dI) vwCl [(hp0, .inl (cJ, n_p0, .inr (.inl yvp0_6)))] H → va_D A [(hp0, .inl (cJ, n_p0, .inr (.inl yvp0_6)))] → va_S A s.heap H locs → lv_has ls 5 [(4, .int (Int32.ofNat n_p0)), (3, .int y3_6), (0, .ref hp0), (1, .long a1)] → f_J7_fill_d0a16_6 N a1 n_p0 (fun z3_6 zvp0_6 => some zvp0_6) n6 y3_6 yvp0_6 = some R → W p l e (rm_J7_fill_d0a16) s m ([.ref hp0, .long a1] : List Value).toArray below meth c H locs 0 0 (MQ below (q_J7_fill_d0a16 dC dI cI cJ cZ hp0 n_p0 R A) ([.ref hp0, .long a1] : List Value).toArray s 0 0 A) (F0 m 6 ls []) := by
    intro n6
    induction n6 with
    | zero => intro y3_6 yvp0_6 H locs ls hP hD hS hl hf; rw [f_J7_fill_d0a16_6] at hf; cases hf
    | succ n6 ih6 =>
      intro y3_6 yvp0_6 H locs ls hP hD hS hl hf
      rw [f_J7_fill_d0a16_6] at hf
      refine lv_iload_n hx hb dJ7_fill_d0a16_6 rfl (lv_at hl 1 rfl) ?_
      refine lv_iload hx hb dJ7_fill_d0a16_7 (lv_at hl 0 rfl) ?_
      refine lv_icmp_ge (tgt := 22) hx hb dJ7_fill_d0a16_9 (by decide) (fun c1 => ?_) (fun c1 => ?_)
      · replace hf := dg_t c1 hf
        exact ex6 y3_6 yvp0_6 _ _ _ hP hD hS (lv_sub hl [0, 1, 2, 3] rfl) hf
      · replace hf := dg_f c1 hf
        refine lv_aload_n hx hb dJ7_fill_d0a16_12 rfl (lv_at hl 2 rfl) ?_
        refine lv_iload_n hx hb dJ7_fill_d0a16_13 rfl (lv_at hl 1 rfl) ?_
        refine lv_lload_n hx hb dJ7_fill_d0a16_14 rfl (lv_at hl 3 rfl) ?_
        obtain ⟨hi2, hf⟩ := dg_ix hf
        refine va_last hx hb hK hP hD hS 0 1 rfl rfl hi2 dJ7_fill_d0a16_15 (fun H locs hP hD hS => ?_)
        have hP : va_P (dC, dI) vwCl [(hp0, .inl (cJ, n_p0, .inr (.inl (vp_updL yvp0_6 y3_6.toNatClampNeg a1))))] H := hP
        have hD : va_D A [(hp0, .inl (cJ, n_p0, .inr (.inl (vp_updL yvp0_6 y3_6.toNatClampNeg a1))))] := hD
        refine lv_iinc (v := (y3_6 + (1:Int32))) (lv' := [(3, .int (y3_6 + (1:Int32))), (4, .int (Int32.ofNat n_p0)), (0, .ref hp0), (1, .long a1)]) hx hb dJ7_fill_d0a16_16 hl (k := 1) rfl (by first | rfl | decide) (by decide) rfl (fun ls hl => ?_)
        refine lv_goto (tgt := 6) hx hb dJ7_fill_d0a16_19 (by decide) ?_
        exact ih6 (y3_6 + (1:Int32)) (vp_updL yvp0_6 y3_6.toNatClampNeg a1) _ _ _ hP hD hS (lv_sub hl [1, 0, 2, 3] rfl) hf
  exact lp6 N (0:Int32) vp0 _ _ _ hP hD hS hl hf
theorem hd_X3_clear : yX3_clear.cls = RX3 ∧ yX3_clear.cls ≠ "java/lang/invoke/MethodHandle" ∧ yX3_clear.cls ≠ "java/lang/invoke/VarHandle" ∧ (parseMethodDescriptor yX3_clear.desc).map (fun d => d.parameters.length) = some 0 := by decide +kernel
abbrev rm_X3_clear : Room := { frames := 1, cells := 0, slots := 0, locals := 24 }
abbrev q_X3_clear (dC : Nat → ClassId) (dI : Nat → Nat → Nat) (cI cJ cZ : ClassId) (ht ht_lying : Nat) (R : (Nat → Int64)) (A : Nat → Prop) : Array Value → State → Outcome → State → Prop := va_Qv (fun (u : (Nat → Int64)) => R = u) (fun (u : (Nat → Int64)) (t : State) => va_P (dC, dI) vwCl [(ht, .inr (3, [.ref ht_lying])), (ht_lying, .inl (cJ, 2048, .inr (.inl u)))] t.heap ∧ va_K (dC, dI) vwCl [(cI, .int), (cJ, .long), (cZ, .boolean)] t ∧ va_D A [(ht, .inr (3, [.ref ht_lying])), (ht_lying, .inl (cJ, 2048, .inr (.inl u)))]) A
set_option maxHeartbeats 4000000 in
set_option maxRecDepth 100000 in
theorem k_X3_clear (l : Launch) (dC : Nat → ClassId) (dI : Nat → Nat → Nat) (cI cJ cZ : ClassId) (sz : Nat) (ht ht_lying : Nat) (vt_lying : Nat → Int64) (N : Nat) (R : (Nat → Int64)) (hf : f_X3_clear N vt_lying = some R) : Met l yX3_clear wsX3_clear (rm_X3_clear) (va_Pc [.ref ht] (fun U => U.heap.size = sz ∧ va_P (dC, dI) vwCl [(ht, .inr (3, [.ref ht_lying])), (ht_lying, .inl (cJ, 2048, .inr (.inl vt_lying)))] U.heap ∧ va_K (dC, dI) vwCl [(cI, .int), (cJ, .long), (cZ, .boolean)] U ∧ va_D (fun _ => True) [(ht, .inr (3, [.ref ht_lying])), (ht_lying, .inl (cJ, 2048, .inr (.inl vt_lying)))])) (q_X3_clear dC dI cI cJ cZ ht ht_lying R (va_A [(ht, .inr (3, [.ref ht_lying])), (ht_lying, .inl (cJ, 2048, .inr (.inl vt_lying)))] sz)) 0 0 (va_A [(ht, .inr (3, [.ref ht_lying])), (ht_lying, .inl (cJ, 2048, .inr (.inl vt_lying)))] sz) := by
  refine Met.ofW (cc := cX3_clear) (maxL := 1) (ret := none) (by decide) rfl ?_
  intro p e s m args below meth c s₁ B hml hv
  obtain ⟨rfl, hsz, hP, hK, hD0⟩ := hv
  have hx := B.exec
  have hb := B.bytes
  have hr := B.returns
  have hts := atoms_spec (ws := wsX3_clear) B.pre
  have hown : s.vm.findClass RX3 = some m.cls := findClass_of_methodNamed B.named
  have hlocks := B.notSynchronized
  clear B
  subst hsz
  have hw0 := hts (.fieldLink RX3 11 "ShorthandCourt$Drawers" "lying" "[J") (by decide +kernel)
  have hinX3 : ∀ w ∈ u_ws RX3 TX3 1, w ∈ wsX3_clear := by decide +kernel
  have hD := hD0.self (sz := s.heap.size)
  clear hD0
  generalize hAe : va_A [(ht, .inr (3, [.ref ht_lying])), (ht_lying, .inl (cJ, 2048, .inr (.inl vt_lying)))] s.heap.size = A at hD ⊢
  have hA : ∀ q : Nat, s.heap.size ≤ q → A q := fun q h => by rw [← hAe]; exact Or.inr h
  clear hAe
  have hS : va_S A s.heap s.heap [] := va_S.rf
  have hl := lv_entry ([.ref ht]) (n := 1) (Nat.le_of_ble_eq_true rfl)
  rw [lg_entry_eq]
  generalize (lg_sl ([.ref ht]) ++ List.replicate (1 - (lg_sl ([.ref ht])).length) Slot.unset).toArray = ls at hl ⊢
  have hl : lv_has ls 1 [(0, .ref ht)] := hl
  unfold f_X3_clear at hf
  refine lv_aload_n hx hb dX3_clear_0 rfl (lv_at hl 0 rfl) ?_
  refine va_get (D := (dC, dI)) (ci := 3) (v := .ref ht_lying) (C := RX3) (T := TX3) (N := 1) hx hb hts hinX3 hown hK hP 0 rfl rfl 0 (by decide) hw0 (fun _ h9 => h9) rfl dX3_clear_1 ?_
  refine lv_lconst (v := 0) hx hb dX3_clear_4 (by decide) ?_
  obtain ⟨x1, hx1, hf⟩ := dg_bind hf
  have hPc : va_P (dC, dI) vwCl [(ht_lying, .inl (cJ, 2048, .inr (.inl vt_lying)))] s.heap := hP.sub [1] rfl
  have hDc : va_D A [(ht_lying, .inl (cJ, 2048, .inr (.inl vt_lying)))] := hD.sub [1] (by decide) rfl
  have hFc := va_free (wc := [(ht_lying, .inl (cJ, 2048, .inr (.inl vt_lying)))]) hD hS hA [1] rfl
  refine va_callv (va_runS (As := [.ref ht_lying, .long (0:Int64)]) (rest := []) ⟨hx, hb, hml, hown, hts⟩ (k_J7_fill_d0a16 l dC dI cI cJ cZ s.heap.size ht_lying 2048 (0:Int64) vt_lying N x1 hx1) (va_cwS 2 hts gX3_clear_J7_fill_d0a16 rfl rfl rfl hd_J7_fill_d0a16 ⟨Nat.le_of_ble_eq_true rfl, Nat.le_of_ble_eq_true rfl⟩) ⟨blind_pc, pre_pc hPc hK hDc⟩ rfl rfl hl.1 rfl (lv_room (Nat.le_of_ble_eq_true rfl)) dX3_clear_5 ⟨Nat.zero_le _, Nat.zero_le _⟩) hS (fun q _ h => hFc q h) hFc (fun u t H1 locs eth hvm hw hB hz1 hk1 hS => ?_)
  obtain ⟨hP1, hK1, hD1⟩ := hB
  rw [eth] at hP1
  subst hw
  obtain ⟨hP, hD⟩ := va_join (wr := [(ht, .inr (3, [.ref ht_lying]))]) (w1 := [(ht_lying, .inl (cJ, 2048, .inr (.inl x1)))]) hP hD [1] [0] rfl rfl (by decide) (by decide) hk1 hFc hP1 hD1
  clear hP1 hK1 hD1 hPc hDc hFc hk1 hz1 hvm eth
  generalize H1 = H at hP hS ⊢
  have hP : va_P (dC, dI) vwCl [(ht, .inr (3, [.ref ht_lying])), (ht_lying, .inl (cJ, 2048, .inr (.inl x1)))] H := hP
  have hD : va_D A [(ht, .inr (3, [.ref ht_lying])), (ht_lying, .inl (cJ, 2048, .inr (.inl x1)))] := hD
  have he := Option.some.inj hf
  have hP9 := hP
  have hD9 := hD
  exact W.vret hx hb hr (fun t eth hW => ⟨⟨x1, rfl, he.symm, by rw [eth]; exact hP9, va_K.moved hW.alike hK, hD9⟩, hS.F eth⟩) hS.2.2 dX3_clear_8
theorem hd_X3_putPage : yX3_putPage.cls = RX3 ∧ yX3_putPage.cls ≠ "java/lang/invoke/MethodHandle" ∧ yX3_putPage.cls ≠ "java/lang/invoke/VarHandle" ∧ (parseMethodDescriptor yX3_putPage.desc).map (fun d => d.parameters.length) = some 1 := by decide +kernel
abbrev rm_X3_putPage : Room := { frames := 0, cells := 0, slots := 0, locals := 0 }
abbrev q_X3_putPage (dC : Nat → ClassId) (dI : Nat → Nat → Nat) (cI cJ cZ : ClassId) (ht ht_lying : Nat) (R : Int32 × (Nat → Int64)) (A : Nat → Prop) : Array Value → State → Outcome → State → Prop := va_Qi (fun (r : Int32) (u : (Nat → Int64)) => R.1 = r ∧ R.2 = u) (fun (u : (Nat → Int64)) (t : State) => va_P (dC, dI) vwCl [(ht, .inr (3, [.ref ht_lying])), (ht_lying, .inl (cJ, 2048, .inr (.inl u)))] t.heap ∧ va_K (dC, dI) vwCl [(cI, .int), (cJ, .long), (cZ, .boolean)] t ∧ va_D A [(ht, .inr (3, [.ref ht_lying])), (ht_lying, .inl (cJ, 2048, .inr (.inl u)))]) A
set_option maxHeartbeats 4000000 in
set_option maxRecDepth 100000 in
theorem k_X3_putPage (l : Launch) (dC : Nat → ClassId) (dI : Nat → Nat → Nat) (cI cJ cZ : ClassId) (sz : Nat) (ht ht_lying : Nat) (a1 : Int32) (vt_lying : Nat → Int64) (N : Nat) (R : Int32 × (Nat → Int64)) (hf : f_X3_putPage N a1 vt_lying = some R) : Met l yX3_putPage wsX3_putPage (rm_X3_putPage) (va_Pc [.ref ht, .int a1] (fun U => U.heap.size = sz ∧ va_P (dC, dI) vwCl [(ht, .inr (3, [.ref ht_lying])), (ht_lying, .inl (cJ, 2048, .inr (.inl vt_lying)))] U.heap ∧ va_K (dC, dI) vwCl [(cI, .int), (cJ, .long), (cZ, .boolean)] U ∧ va_D (fun _ => True) [(ht, .inr (3, [.ref ht_lying])), (ht_lying, .inl (cJ, 2048, .inr (.inl vt_lying)))])) (q_X3_putPage dC dI cI cJ cZ ht ht_lying R (va_A [(ht, .inr (3, [.ref ht_lying])), (ht_lying, .inl (cJ, 2048, .inr (.inl vt_lying)))] sz)) 0 0 (va_A [(ht, .inr (3, [.ref ht_lying])), (ht_lying, .inl (cJ, 2048, .inr (.inl vt_lying)))] sz) := by
  refine Met.ofW (cc := cX3_putPage) (maxL := 2) (ret := (some .int)) (by decide) rfl ?_
  intro p e s m args below meth c s₁ B hml hv
  obtain ⟨rfl, hsz, hP, hK, hD0⟩ := hv
  have hx := B.exec
  have hb := B.bytes
  have hr := B.returns
  have hts := atoms_spec (ws := wsX3_putPage) B.pre
  have hown : s.vm.findClass RX3 = some m.cls := findClass_of_methodNamed B.named
  have hlocks := B.notSynchronized
  clear B
  subst hsz
  have hw0 := hts (.fieldLink RX3 11 "ShorthandCourt$Drawers" "lying" "[J") (by decide +kernel)
  have hinX3 : ∀ w ∈ u_ws RX3 TX3 1, w ∈ wsX3_putPage := by decide +kernel
  have hD := hD0.self (sz := s.heap.size)
  clear hD0
  generalize hAe : va_A [(ht, .inr (3, [.ref ht_lying])), (ht_lying, .inl (cJ, 2048, .inr (.inl vt_lying)))] s.heap.size = A at hD ⊢
  have hA : ∀ q : Nat, s.heap.size ≤ q → A q := fun q h => by rw [← hAe]; exact Or.inr h
  clear hAe
  have hS : va_S A s.heap s.heap [] := va_S.rf
  have hl := lv_entry ([.ref ht, .int a1]) (n := 2) (Nat.le_of_ble_eq_true rfl)
  rw [lg_entry_eq]
  generalize (lg_sl ([.ref ht, .int a1]) ++ List.replicate (2 - (lg_sl ([.ref ht, .int a1])).length) Slot.unset).toArray = ls at hl ⊢
  have hl : lv_has ls 2 [(0, .ref ht), (1, .int a1)] := hl
  unfold f_X3_putPage at hf
  refine lv_iload_n hx hb dX3_putPage_0 rfl (lv_at hl 1 rfl) ?_
  refine lv_if_lt (tgt := 11) hx hb dX3_putPage_1 (by decide) (fun c1 => ?_) (fun c1 => ?_)
  · replace hf := dg_t c1 hf
    refine lv_iconst (v := 0) hx hb dX3_putPage_11 (by decide) ?_
    have he := Option.some.inj hf
    have hP9 := hP
    have hD9 := hD
    exact W.iret (v := (0:Int32)) hx hb hr (fun t eth hW => ⟨⟨(0:Int32), vt_lying, rfl, ⟨(congrArg Prod.fst he).symm, (congrArg Prod.snd he).symm⟩, by rw [eth]; exact hP9, va_K.moved hW.alike hK, hD9⟩, hS.F eth⟩) hS.2.2 dX3_putPage_12
  · replace hf := dg_f c1 hf
    refine lv_iload_n hx hb dX3_putPage_4 rfl (lv_at hl 1 rfl) ?_
    refine lv_sipush (v := 2048) hx hb dX3_putPage_5 (by decide) ?_
    refine lv_icmp_lt (tgt := 13) hx hb dX3_putPage_8 (by decide) (fun c2 => ?_) (fun c2 => ?_)
    · replace hf := dg_t c2 hf
      refine lv_aload_n hx hb dX3_putPage_13 rfl (lv_at hl 0 rfl) ?_
      refine va_get (D := (dC, dI)) (ci := 3) (v := .ref ht_lying) (C := RX3) (T := TX3) (N := 1) hx hb hts hinX3 hown hK hP 0 rfl rfl 0 (by decide) hw0 (fun _ h9 => h9) rfl dX3_putPage_14 ?_
      refine lv_iload_n hx hb dX3_putPage_17 rfl (lv_at hl 1 rfl) ?_
      refine lv_dup2_11 hx hb dX3_putPage_18 rfl rfl ?_
      obtain ⟨hi3, hf⟩ := dg_ix hf
      refine va_lald hx hb hK hP 1 1 rfl rfl hi3 dX3_putPage_19 ?_
      refine lv_lconst (v := 1) hx hb dX3_putPage_20 (by decide) ?_
      refine lv_ladd hx hb dX3_putPage_21 ?_
      obtain ⟨hi4, hf⟩ := dg_ix hf
      refine va_last hx hb hK hP hD hS 1 1 rfl rfl hi4 dX3_putPage_22 (fun H locs hP hD hS => ?_)
      have hP : va_P (dC, dI) vwCl [(ht, .inr (3, [.ref ht_lying])), (ht_lying, .inl (cJ, 2048, .inr (.inl (vp_updL vt_lying a1.toNatClampNeg ((vt_lying a1.toNatClampNeg) + (1:Int64))))))] H := hP
      have hD : va_D A [(ht, .inr (3, [.ref ht_lying])), (ht_lying, .inl (cJ, 2048, .inr (.inl (vp_updL vt_lying a1.toNatClampNeg ((vt_lying a1.toNatClampNeg) + (1:Int64))))))] := hD
      refine lv_aload_n hx hb dX3_putPage_23 rfl (lv_at hl 0 rfl) ?_
      refine va_get (D := (dC, dI)) (ci := 3) (v := .ref ht_lying) (C := RX3) (T := TX3) (N := 1) hx hb hts hinX3 hown hK hP 0 rfl rfl 0 (by decide) hw0 (fun _ h9 => h9) rfl dX3_putPage_24 ?_
      refine lv_iload_n hx hb dX3_putPage_27 rfl (lv_at hl 1 rfl) ?_
      obtain ⟨hi5, hf⟩ := dg_ix hf
      refine va_lald hx hb hK hP 1 1 rfl rfl hi5 dX3_putPage_28 ?_
      refine lv_l2i hx hb dX3_putPage_29 rfl ?_
      have he := Option.some.inj hf
      have hP9 := hP
      have hD9 := hD
      exact W.iret (v := ((vp_updL vt_lying a1.toNatClampNeg ((vt_lying a1.toNatClampNeg) + (1:Int64))) a1.toNatClampNeg).toInt32) hx hb hr (fun t eth hW => ⟨⟨((vp_updL vt_lying a1.toNatClampNeg ((vt_lying a1.toNatClampNeg) + (1:Int64))) a1.toNatClampNeg).toInt32, (vp_updL vt_lying a1.toNatClampNeg ((vt_lying a1.toNatClampNeg) + (1:Int64))), rfl, ⟨(congrArg Prod.fst he).symm, (congrArg Prod.snd he).symm⟩, by rw [eth]; exact hP9, va_K.moved hW.alike hK, hD9⟩, hS.F eth⟩) hS.2.2 dX3_putPage_30
    · replace hf := dg_f c2 hf
      refine lv_iconst (v := 0) hx hb dX3_putPage_11 (by decide) ?_
      have he := Option.some.inj hf
      have hP9 := hP
      have hD9 := hD
      exact W.iret (v := (0:Int32)) hx hb hr (fun t eth hW => ⟨⟨(0:Int32), vt_lying, rfl, ⟨(congrArg Prod.fst he).symm, (congrArg Prod.snd he).symm⟩, by rw [eth]; exact hP9, va_K.moved hW.alike hK, hD9⟩, hS.F eth⟩) hS.2.2 dX3_putPage_12
theorem hd_X3_putNew : yX3_putNew.cls = RX3 ∧ yX3_putNew.cls ≠ "java/lang/invoke/MethodHandle" ∧ yX3_putNew.cls ≠ "java/lang/invoke/VarHandle" ∧ (parseMethodDescriptor yX3_putNew.desc).map (fun d => d.parameters.length) = some 1 := by decide +kernel
abbrev rm_X3_putNew : Room := { frames := 0, cells := 0, slots := 0, locals := 0 }
abbrev q_X3_putNew (dC : Nat → ClassId) (dI : Nat → Nat → Nat) (cI cJ cZ : ClassId) (ht ht_lying : Nat) (R : Int32 × (Nat → Int64)) (A : Nat → Prop) : Array Value → State → Outcome → State → Prop := va_Qi (fun (r : Int32) (u : (Nat → Int64)) => R.1 = r ∧ R.2 = u) (fun (u : (Nat → Int64)) (t : State) => va_P (dC, dI) vwCl [(ht, .inr (3, [.ref ht_lying])), (ht_lying, .inl (cJ, 2048, .inr (.inl u)))] t.heap ∧ va_K (dC, dI) vwCl [(cI, .int), (cJ, .long), (cZ, .boolean)] t ∧ va_D A [(ht, .inr (3, [.ref ht_lying])), (ht_lying, .inl (cJ, 2048, .inr (.inl u)))]) A
set_option maxHeartbeats 4000000 in
set_option maxRecDepth 100000 in
theorem k_X3_putNew (l : Launch) (dC : Nat → ClassId) (dI : Nat → Nat → Nat) (cI cJ cZ : ClassId) (sz : Nat) (ht ht_lying : Nat) (a1 : Int64) (vt_lying : Nat → Int64) (N : Nat) (R : Int32 × (Nat → Int64)) (hf : f_X3_putNew N a1 vt_lying = some R) : Met l yX3_putNew wsX3_putNew (rm_X3_putNew) (va_Pc [.ref ht, .long a1] (fun U => U.heap.size = sz ∧ va_P (dC, dI) vwCl [(ht, .inr (3, [.ref ht_lying])), (ht_lying, .inl (cJ, 2048, .inr (.inl vt_lying)))] U.heap ∧ va_K (dC, dI) vwCl [(cI, .int), (cJ, .long), (cZ, .boolean)] U ∧ va_D (fun _ => True) [(ht, .inr (3, [.ref ht_lying])), (ht_lying, .inl (cJ, 2048, .inr (.inl vt_lying)))])) (q_X3_putNew dC dI cI cJ cZ ht ht_lying R (va_A [(ht, .inr (3, [.ref ht_lying])), (ht_lying, .inl (cJ, 2048, .inr (.inl vt_lying)))] sz)) 0 0 (va_A [(ht, .inr (3, [.ref ht_lying])), (ht_lying, .inl (cJ, 2048, .inr (.inl vt_lying)))] sz) := by
  refine Met.ofW (cc := cX3_putNew) (maxL := 6) (ret := (some .boolean)) (by decide) rfl ?_
  intro p e s m args below meth c s₁ B hml hv
  obtain ⟨rfl, hsz, hP, hK, hD0⟩ := hv
  have hx := B.exec
  have hb := B.bytes
  have hr := B.returns
  have hts := atoms_spec (ws := wsX3_putNew) B.pre
  have hown : s.vm.findClass RX3 = some m.cls := findClass_of_methodNamed B.named
  have hlocks := B.notSynchronized
  clear B
  subst hsz
  have hw0 := hts (.constantLong RX3 21 (-7046029254386353131)) (by decide +kernel)
  have hw1 := hts (.fieldLink RX3 11 "ShorthandCourt$Drawers" "lying" "[J") (by decide +kernel)
  have hinX3 : ∀ w ∈ u_ws RX3 TX3 1, w ∈ wsX3_putNew := by decide +kernel
  have hD := hD0.self (sz := s.heap.size)
  clear hD0
  generalize hAe : va_A [(ht, .inr (3, [.ref ht_lying])), (ht_lying, .inl (cJ, 2048, .inr (.inl vt_lying)))] s.heap.size = A at hD ⊢
  have hA : ∀ q : Nat, s.heap.size ≤ q → A q := fun q h => by rw [← hAe]; exact Or.inr h
  clear hAe
  have hS : va_S A s.heap s.heap [] := va_S.rf
  have hl := lv_entry ([.ref ht, .long a1]) (n := 6) (Nat.le_of_ble_eq_true rfl)
  rw [lg_entry_eq]
  generalize (lg_sl ([.ref ht, .long a1]) ++ List.replicate (6 - (lg_sl ([.ref ht, .long a1])).length) Slot.unset).toArray = ls at hl ⊢
  have hl : lv_has ls 6 [(0, .ref ht), (1, .long a1)] := hl
  unfold f_X3_putNew at hf
  refine lv_lload_n hx hb dX3_putNew_0 rfl (lv_at hl 1 rfl) ?_
  refine lv_ldc2 (v := -7046029254386353131) hx hb hown hw0 dX3_putNew_1 ?_
  refine lv_lmul hx hb dX3_putNew_4 ?_
  refine lv_bipush (v := 53) hx hb dX3_putNew_5 (by decide) ?_
  refine lv_lushr hx hb dX3_putNew_7 rfl ?_
  refine lv_l2i hx hb dX3_putNew_8 rfl ?_
  refine lv_istore_n (lv' := [(3, .int ((a1 * (-7046029254386353131:Int64)).toUInt64 >>> ((53:Int32).toInt64.toUInt64 &&& Int64.toUInt64 63)).toInt64.toInt32), (0, .ref ht), (1, .long a1)]) hx hb dX3_putNew_9 rfl hl (by decide) rfl (fun ls hl => ?_)
  refine lv_iconst (v := 0) hx hb dX3_putNew_10 (by decide) ?_
  refine lv_istore (lv' := [(4, .int (0:Int32)), (3, .int ((a1 * (-7046029254386353131:Int64)).toUInt64 >>> ((53:Int32).toInt64.toUInt64 &&& Int64.toUInt64 63)).toInt64.toInt32), (0, .ref ht), (1, .long a1)]) hx hb dX3_putNew_11 hl (by decide) rfl (fun ls hl => ?_)
  have ex13 : ∀ (z4_13 : Int32) (H : Heap) (locs : List Loc) (ls : Array Slot), va_P (dC, dI) vwCl [(ht, .inr (3, [.ref ht_lying])), (ht_lying, .inl (cJ, 2048, .inr (.inl vt_lying)))] H → va_D A [(ht, .inr (3, [.ref ht_lying])), (ht_lying, .inl (cJ, 2048, .inr (.inl vt_lying)))] → va_S A s.heap H locs → lv_has ls 6 [(4, .int z4_13), (3, .int ((a1 * (-7046029254386353131:Int64)).toUInt64 >>> ((53:Int32).toInt64.toUInt64 &&& Int64.toUInt64 63)).toInt64.toInt32), (0, .ref ht), (1, .long a1)] → (some ((0:Int32), vt_lying)) = some R → W p l e (rm_X3_putNew) s m ([.ref ht, .long a1] : List Value).toArray below meth c H locs 0 0 (MQ below (q_X3_putNew dC dI cI cJ cZ ht ht_lying R A) ([.ref ht, .long a1] : List Value).toArray s 0 0 A) (F0 m 73 ls []) := by
    intro z4_13 H locs ls hP hD hS hl hf
    refine lv_iconst (v := 0) hx hb dX3_putNew_73 (by decide) ?_
    have he := Option.some.inj hf
    have hP9 := hP
    have hD9 := hD
    exact W.zret (v := (0:Int32)) (ty := .boolean) hx hb hr (by decide) (fun t eth hW => ⟨⟨(0:Int32), vt_lying, rfl, ⟨(congrArg Prod.fst he).symm, (congrArg Prod.snd he).symm⟩, by rw [eth]; exact hP9, va_K.moved hW.alike hK, hD9⟩, hS.F eth⟩) hS.2.2 dX3_putNew_74
  have lp13 : ∀ (n13 : Nat) (y4_13 : Int32) (H : Heap) (locs : List Loc) (ls : Array Slot), va_P (dC, dI) vwCl [(ht, .inr (3, [.ref ht_lying])), (ht_lying, .inl (cJ, 2048, .inr (.inl vt_lying)))] H → va_D A [(ht, .inr (3, [.ref ht_lying])), (ht_lying, .inl (cJ, 2048, .inr (.inl vt_lying)))] → va_S A s.heap H locs → lv_has ls 6 [(4, .int y4_13), (3, .int ((a1 * (-7046029254386353131:Int64)).toUInt64 >>> ((53:Int32).toInt64.toUInt64 &&& Int64.toUInt64 63)).toInt64.toInt32), (0, .ref ht), (1, .long a1)] → f_X3_putNew_13 N a1 vt_lying (fun z4_13 => some ((0:Int32), vt_lying)) n13 y4_13 = some R → W p l e (rm_X3_putNew) s m ([.ref ht, .long a1] : List Value).toArray below meth c H locs 0 0 (MQ below (q_X3_putNew dC dI cI cJ cZ ht ht_lying R A) ([.ref ht, .long a1] : List Value).toArray s 0 0 A) (F0 m 13 ls []) := by
    intro n13
    induction n13 with
    | zero => intro y4_13 H locs ls hP hD hS hl hf; rw [f_X3_putNew_13] at hf; cases hf
    | succ n13 ih13 =>
      intro y4_13 H locs ls hP hD hS hl hf
      rw [f_X3_putNew_13] at hf
      refine lv_iload hx hb dX3_putNew_13 (lv_at hl 0 rfl) ?_
      refine lv_sipush (v := 2048) hx hb dX3_putNew_15 (by decide) ?_
      refine lv_icmp_ge (tgt := 73) hx hb dX3_putNew_18 (by decide) (fun c1 => ?_) (fun c1 => ?_)
      · replace hf := dg_t c1 hf
        exact ex13 y4_13 _ _ _ hP hD hS (lv_sub hl [0, 1, 2, 3] rfl) hf
      · replace hf := dg_f c1 hf
        refine lv_iload_n hx hb dX3_putNew_21 rfl (lv_at hl 1 rfl) ?_
        refine lv_iload hx hb dX3_putNew_22 (lv_at hl 0 rfl) ?_
        refine lv_iadd hx hb dX3_putNew_24 ?_
        refine lv_sipush (v := 2047) hx hb dX3_putNew_25 (by decide) ?_
        refine lv_iand hx hb dX3_putNew_28 ?_
        refine lv_istore (lv' := [(5, .int ((((a1 * (-7046029254386353131:Int64)).toUInt64 >>> ((53:Int32).toInt64.toUInt64 &&& Int64.toUInt64 63)).toInt64.toInt32 + y4_13) &&& (2047:Int32))), (4, .int y4_13), (3, .int ((a1 * (-7046029254386353131:Int64)).toUInt64 >>> ((53:Int32).toInt64.toUInt64 &&& Int64.toUInt64 63)).toInt64.toInt32), (0, .ref ht), (1, .long a1)]) hx hb dX3_putNew_29 hl (by decide) rfl (fun ls hl => ?_)
        refine lv_aload_n hx hb dX3_putNew_31 rfl (lv_at hl 3 rfl) ?_
        refine va_get (D := (dC, dI)) (ci := 3) (v := .ref ht_lying) (C := RX3) (T := TX3) (N := 1) hx hb hts hinX3 hown hK hP 0 rfl rfl 0 (by decide) hw1 (fun _ h9 => h9) rfl dX3_putNew_32 ?_
        refine lv_iload hx hb dX3_putNew_35 (lv_at hl 0 rfl) ?_
        obtain ⟨hi2, hf⟩ := dg_ix hf
        refine va_lald hx hb hK hP 1 1 rfl rfl hi2 dX3_putNew_37 ?_
        refine lv_lconst (v := 0) hx hb dX3_putNew_38 (by decide) ?_
        refine W.lcmp hx hb dX3_putNew_39 ?_
        refine lv_if_ne (tgt := 53) hx hb dX3_putNew_40 (by decide) (fun c3 => ?_) (fun c3 => ?_)
        · replace hf := dg_f c3 hf
          refine lv_aload_n hx hb dX3_putNew_53 rfl (lv_at hl 3 rfl) ?_
          refine va_get (D := (dC, dI)) (ci := 3) (v := .ref ht_lying) (C := RX3) (T := TX3) (N := 1) hx hb hts hinX3 hown hK hP 0 rfl rfl 0 (by decide) hw1 (fun _ h9 => h9) rfl dX3_putNew_54 ?_
          refine lv_iload hx hb dX3_putNew_57 (lv_at hl 0 rfl) ?_
          obtain ⟨hi4, hf⟩ := dg_ix hf
          refine va_lald hx hb hK hP 1 1 rfl rfl hi4 dX3_putNew_59 ?_
          refine lv_lload_n hx hb dX3_putNew_60 rfl (lv_at hl 4 rfl) ?_
          refine W.lcmp hx hb dX3_putNew_61 ?_
          refine lv_if_ne (tgt := 67) hx hb dX3_putNew_62 (by decide) (fun c5 => ?_) (fun c5 => ?_)
          · replace hf := dg_f c5 hf
            refine lv_iinc (v := (y4_13 + (1:Int32))) (lv' := [(4, .int (y4_13 + (1:Int32))), (5, .int ((((a1 * (-7046029254386353131:Int64)).toUInt64 >>> ((53:Int32).toInt64.toUInt64 &&& Int64.toUInt64 63)).toInt64.toInt32 + y4_13) &&& (2047:Int32))), (3, .int ((a1 * (-7046029254386353131:Int64)).toUInt64 >>> ((53:Int32).toInt64.toUInt64 &&& Int64.toUInt64 63)).toInt64.toInt32), (0, .ref ht), (1, .long a1)]) hx hb dX3_putNew_67 hl (k := 1) rfl (by first | rfl | decide) (by decide) rfl (fun ls hl => ?_)
            refine lv_goto (tgt := 13) hx hb dX3_putNew_70 (by decide) ?_
            exact ih13 (y4_13 + (1:Int32)) _ _ _ hP hD hS (lv_sub hl [0, 2, 3, 4] rfl) hf
          · replace hf := dg_t c5 hf
            refine lv_iconst (v := 0) hx hb dX3_putNew_65 (by decide) ?_
            have he := Option.some.inj hf
            have hP9 := hP
            have hD9 := hD
            exact W.zret (v := (0:Int32)) (ty := .boolean) hx hb hr (by decide) (fun t eth hW => ⟨⟨(0:Int32), vt_lying, rfl, ⟨(congrArg Prod.fst he).symm, (congrArg Prod.snd he).symm⟩, by rw [eth]; exact hP9, va_K.moved hW.alike hK, hD9⟩, hS.F eth⟩) hS.2.2 dX3_putNew_66
        · replace hf := dg_t c3 hf
          refine lv_aload_n hx hb dX3_putNew_43 rfl (lv_at hl 3 rfl) ?_
          refine va_get (D := (dC, dI)) (ci := 3) (v := .ref ht_lying) (C := RX3) (T := TX3) (N := 1) hx hb hts hinX3 hown hK hP 0 rfl rfl 0 (by decide) hw1 (fun _ h9 => h9) rfl dX3_putNew_44 ?_
          refine lv_iload hx hb dX3_putNew_47 (lv_at hl 0 rfl) ?_
          refine lv_lload_n hx hb dX3_putNew_49 rfl (lv_at hl 4 rfl) ?_
          obtain ⟨hi6, hf⟩ := dg_ix hf
          refine va_last hx hb hK hP hD hS 1 1 rfl rfl hi6 dX3_putNew_50 (fun H locs hP hD hS => ?_)
          have hP : va_P (dC, dI) vwCl [(ht, .inr (3, [.ref ht_lying])), (ht_lying, .inl (cJ, 2048, .inr (.inl (vp_updL vt_lying ((((a1 * (-7046029254386353131:Int64)).toUInt64 >>> ((53:Int32).toInt64.toUInt64 &&& Int64.toUInt64 63)).toInt64.toInt32 + y4_13) &&& (2047:Int32)).toNatClampNeg a1))))] H := hP
          have hD : va_D A [(ht, .inr (3, [.ref ht_lying])), (ht_lying, .inl (cJ, 2048, .inr (.inl (vp_updL vt_lying ((((a1 * (-7046029254386353131:Int64)).toUInt64 >>> ((53:Int32).toInt64.toUInt64 &&& Int64.toUInt64 63)).toInt64.toInt32 + y4_13) &&& (2047:Int32)).toNatClampNeg a1))))] := hD
          refine lv_iconst (v := 1) hx hb dX3_putNew_51 (by decide) ?_
          have he := Option.some.inj hf
          have hP9 := hP
          have hD9 := hD
          exact W.zret (v := (1:Int32)) (ty := .boolean) hx hb hr (by decide) (fun t eth hW => ⟨⟨(1:Int32), (vp_updL vt_lying ((((a1 * (-7046029254386353131:Int64)).toUInt64 >>> ((53:Int32).toInt64.toUInt64 &&& Int64.toUInt64 63)).toInt64.toInt32 + y4_13) &&& (2047:Int32)).toNatClampNeg a1), rfl, ⟨(congrArg Prod.fst he).symm, (congrArg Prod.snd he).symm⟩, by rw [eth]; exact hP9, va_K.moved hW.alike hK, hD9⟩, hS.F eth⟩) hS.2.2 dX3_putNew_52
  exact lp13 N (0:Int32) _ _ _ hP hD hS hl hf
theorem hd_X4_withoutLast : yX4_withoutLast.cls ≠ "java/lang/invoke/MethodHandle" ∧ yX4_withoutLast.cls ≠ "java/lang/invoke/VarHandle" ∧ (parseMethodDescriptor yX4_withoutLast.desc).map (fun d => d.parameters.length) = some 1 := by decide +kernel
abbrev rm_X4_withoutLast : Room := { frames := 0, cells := 0, slots := 0, locals := 0 }
abbrev q_X4_withoutLast (dC : Nat → ClassId) (dI : Nat → Nat → Nat) (cI cJ cZ : ClassId) (R : Int32) (A : Nat → Prop) : Array Value → State → Outcome → State → Prop := va_Qi (fun (r : Int32) (_ : Unit) => R = r) (fun (u : Unit) (t : State) => va_P (dC, dI) vwCl [] t.heap ∧ va_K (dC, dI) vwCl [(cI, .int), (cJ, .long), (cZ, .boolean)] t ∧ va_D A []) A
set_option maxHeartbeats 4000000 in
set_option maxRecDepth 100000 in
theorem k_X4_withoutLast (l : Launch) (dC : Nat → ClassId) (dI : Nat → Nat → Nat) (cI cJ cZ : ClassId) (sz : Nat) (a0 : Int32) (N : Nat) (R : Int32) (hf : f_X4_withoutLast N a0 = some R) : Met l yX4_withoutLast wsX4_withoutLast (rm_X4_withoutLast) (va_Pc [.int a0] (fun U => U.heap.size = sz ∧ va_P (dC, dI) vwCl [] U.heap ∧ va_K (dC, dI) vwCl [(cI, .int), (cJ, .long), (cZ, .boolean)] U ∧ va_D (fun _ => True) [])) (q_X4_withoutLast dC dI cI cJ cZ  R (va_A [] sz)) 0 0 (va_A [] sz) := by
  refine Met.ofW (cc := cX4_withoutLast) (maxL := 1) (ret := (some .int)) (by decide) rfl ?_
  intro p e s m args below meth c s₁ B hml hv
  obtain ⟨rfl, hsz, hP, hK, hD0⟩ := hv
  have hx := B.exec
  have hb := B.bytes
  have hr := B.returns
  have hts := atoms_spec (ws := wsX4_withoutLast) B.pre
  have hown : s.vm.findClass RX4 = some m.cls := findClass_of_methodNamed B.named
  have hlocks := B.notSynchronized
  clear B
  subst hsz
  have hD := hD0.self (sz := s.heap.size)
  clear hD0
  generalize hAe : va_A [] s.heap.size = A at hD ⊢
  have hA : ∀ q : Nat, s.heap.size ≤ q → A q := fun q h => by rw [← hAe]; exact Or.inr h
  clear hAe
  have hS : va_S A s.heap s.heap [] := va_S.rf
  have hl := lv_entry ([.int a0]) (n := 1) (Nat.le_of_ble_eq_true rfl)
  rw [lg_entry_eq]
  generalize (lg_sl ([.int a0]) ++ List.replicate (1 - (lg_sl ([.int a0])).length) Slot.unset).toArray = ls at hl ⊢
  have hl : lv_has ls 1 [(0, .int a0)] := hl
  unfold f_X4_withoutLast at hf
  refine lv_iload_n hx hb dX4_withoutLast_0 rfl (lv_at hl 0 rfl) ?_
  refine lv_iconst (v := 2) hx hb dX4_withoutLast_1 (by decide) ?_
  refine lv_ishr hx hb dX4_withoutLast_2 ?_
  have he := Option.some.inj hf
  have hP9 := hP
  have hD9 := hD
  exact W.iret (v := (a0 >>> ((2:Int32) &&& 31))) hx hb hr (fun t eth hW => ⟨⟨(a0 >>> ((2:Int32) &&& 31)), (), rfl, he.symm, by rw [eth]; exact hP9, va_K.moved hW.alike hK, hD9⟩, hS.F eth⟩) hS.2.2 dX4_withoutLast_3
theorem hd_X4_lastWord : yX4_lastWord.cls ≠ "java/lang/invoke/MethodHandle" ∧ yX4_lastWord.cls ≠ "java/lang/invoke/VarHandle" ∧ (parseMethodDescriptor yX4_lastWord.desc).map (fun d => d.parameters.length) = some 1 := by decide +kernel
abbrev rm_X4_lastWord : Room := { frames := 0, cells := 0, slots := 0, locals := 0 }
abbrev q_X4_lastWord (dC : Nat → ClassId) (dI : Nat → Nat → Nat) (cI cJ cZ : ClassId) (R : Int32) (A : Nat → Prop) : Array Value → State → Outcome → State → Prop := va_Qi (fun (r : Int32) (_ : Unit) => R = r) (fun (u : Unit) (t : State) => va_P (dC, dI) vwCl [] t.heap ∧ va_K (dC, dI) vwCl [(cI, .int), (cJ, .long), (cZ, .boolean)] t ∧ va_D A []) A
set_option maxHeartbeats 4000000 in
set_option maxRecDepth 100000 in
theorem k_X4_lastWord (l : Launch) (dC : Nat → ClassId) (dI : Nat → Nat → Nat) (cI cJ cZ : ClassId) (sz : Nat) (a0 : Int32) (N : Nat) (R : Int32) (hf : f_X4_lastWord N a0 = some R) : Met l yX4_lastWord wsX4_lastWord (rm_X4_lastWord) (va_Pc [.int a0] (fun U => U.heap.size = sz ∧ va_P (dC, dI) vwCl [] U.heap ∧ va_K (dC, dI) vwCl [(cI, .int), (cJ, .long), (cZ, .boolean)] U ∧ va_D (fun _ => True) [])) (q_X4_lastWord dC dI cI cJ cZ  R (va_A [] sz)) 0 0 (va_A [] sz) := by
  refine Met.ofW (cc := cX4_lastWord) (maxL := 1) (ret := (some .int)) (by decide) rfl ?_
  intro p e s m args below meth c s₁ B hml hv
  obtain ⟨rfl, hsz, hP, hK, hD0⟩ := hv
  have hx := B.exec
  have hb := B.bytes
  have hr := B.returns
  have hts := atoms_spec (ws := wsX4_lastWord) B.pre
  have hown : s.vm.findClass RX4 = some m.cls := findClass_of_methodNamed B.named
  have hlocks := B.notSynchronized
  clear B
  subst hsz
  have hD := hD0.self (sz := s.heap.size)
  clear hD0
  generalize hAe : va_A [] s.heap.size = A at hD ⊢
  have hA : ∀ q : Nat, s.heap.size ≤ q → A q := fun q h => by rw [← hAe]; exact Or.inr h
  clear hAe
  have hS : va_S A s.heap s.heap [] := va_S.rf
  have hl := lv_entry ([.int a0]) (n := 1) (Nat.le_of_ble_eq_true rfl)
  rw [lg_entry_eq]
  generalize (lg_sl ([.int a0]) ++ List.replicate (1 - (lg_sl ([.int a0])).length) Slot.unset).toArray = ls at hl ⊢
  have hl : lv_has ls 1 [(0, .int a0)] := hl
  unfold f_X4_lastWord at hf
  refine lv_iload_n hx hb dX4_lastWord_0 rfl (lv_at hl 0 rfl) ?_
  refine lv_iconst (v := 3) hx hb dX4_lastWord_1 (by decide) ?_
  refine lv_iand hx hb dX4_lastWord_2 ?_
  have he := Option.some.inj hf
  have hP9 := hP
  have hD9 := hD
  exact W.iret (v := (a0 &&& (3:Int32))) hx hb hr (fun t eth hW => ⟨⟨(a0 &&& (3:Int32)), (), rfl, he.symm, by rw [eth]; exact hP9, va_K.moved hW.alike hK, hD9⟩, hS.F eth⟩) hS.2.2 dX4_lastWord_3
theorem hd_X4_wordOrNone : yX4_wordOrNone.cls ≠ "java/lang/invoke/MethodHandle" ∧ yX4_wordOrNone.cls ≠ "java/lang/invoke/VarHandle" ∧ (parseMethodDescriptor yX4_wordOrNone.desc).map (fun d => d.parameters.length) = some 2 := by decide +kernel
abbrev rm_X4_wordOrNone : Room := { frames := 1, cells := 0, slots := 0, locals := 22 }
abbrev q_X4_wordOrNone (dC : Nat → ClassId) (dI : Nat → Nat → Nat) (cI cJ cZ : ClassId) (R : Int32) (A : Nat → Prop) : Array Value → State → Outcome → State → Prop := va_Qi (fun (r : Int32) (_ : Unit) => R = r) (fun (u : Unit) (t : State) => va_P (dC, dI) vwCl [] t.heap ∧ va_K (dC, dI) vwCl [(cI, .int), (cJ, .long), (cZ, .boolean)] t ∧ va_D A []) A
set_option maxHeartbeats 4000000 in
set_option maxRecDepth 100000 in
theorem k_X4_wordOrNone (l : Launch) (dC : Nat → ClassId) (dI : Nat → Nat → Nat) (cI cJ cZ : ClassId) (sz : Nat) (a0 : Int32) (a1 : Int32) (N : Nat) (R : Int32) (hf : f_X4_wordOrNone N a0 a1 = some R) : Met l yX4_wordOrNone wsX4_wordOrNone (rm_X4_wordOrNone) (va_Pc [.int a0, .int a1] (fun U => U.heap.size = sz ∧ va_P (dC, dI) vwCl [] U.heap ∧ va_K (dC, dI) vwCl [(cI, .int), (cJ, .long), (cZ, .boolean)] U ∧ va_D (fun _ => True) [])) (q_X4_wordOrNone dC dI cI cJ cZ  R (va_A [] sz)) 0 0 (va_A [] sz) := by
  refine Met.ofW (cc := cX4_wordOrNone) (maxL := 3) (ret := (some .int)) (by decide) rfl ?_
  intro p e s m args below meth c s₁ B hml hv
  obtain ⟨rfl, hsz, hP, hK, hD0⟩ := hv
  have hx := B.exec
  have hb := B.bytes
  have hr := B.returns
  have hts := atoms_spec (ws := wsX4_wordOrNone) B.pre
  have hown : s.vm.findClass RX4 = some m.cls := findClass_of_methodNamed B.named
  have hlocks := B.notSynchronized
  clear B
  subst hsz
  have hD := hD0.self (sz := s.heap.size)
  clear hD0
  generalize hAe : va_A [] s.heap.size = A at hD ⊢
  have hA : ∀ q : Nat, s.heap.size ≤ q → A q := fun q h => by rw [← hAe]; exact Or.inr h
  clear hAe
  have hS : va_S A s.heap s.heap [] := va_S.rf
  have hl := lv_entry ([.int a0, .int a1]) (n := 3) (Nat.le_of_ble_eq_true rfl)
  rw [lg_entry_eq]
  generalize (lg_sl ([.int a0, .int a1]) ++ List.replicate (3 - (lg_sl ([.int a0, .int a1])).length) Slot.unset).toArray = ls at hl ⊢
  have hl : lv_has ls 3 [(0, .int a0), (1, .int a1)] := hl
  unfold f_X4_wordOrNone at hf
  refine lv_iload_n hx hb dX4_wordOrNone_0 rfl (lv_at hl 0 rfl) ?_
  obtain ⟨x1, hx1, hf⟩ := dg_bind hf
  have hPc : va_P (dC, dI) vwCl [] s.heap := hP.sub [] rfl
  have hDc : va_D A [] := hD.sub [] (by decide) rfl
  have hFc := va_free (wc := []) hD hS hA [] rfl
  refine va_calli (va_runS (As := [.int a0]) (rest := []) ⟨hx, hb, hml, hown, hts⟩ (k_X4_wordsIn l dC dI cI cJ cZ s.heap.size a0 N x1 hx1) (va_cwS 1 hts gX4_wordOrNone_X4_wordsIn rfl rfl rfl hd_X4_wordsIn ⟨Nat.le_of_ble_eq_true rfl, Nat.le_of_ble_eq_true rfl⟩) ⟨blind_pc, pre_pc hPc hK hDc⟩ rfl rfl hl.1 rfl (lv_room (Nat.le_of_ble_eq_true rfl)) dX4_wordOrNone_1 ⟨Nat.zero_le _, Nat.zero_le _⟩) hS (fun q _ h => hFc q h) hFc (fun r u t H1 locs eth hvm hw hB hz1 hk1 hS => ?_)
  obtain ⟨hP1, hK1, hD1⟩ := hB
  rw [eth] at hP1
  subst hw
  obtain ⟨hP, hD⟩ := va_join (wr := []) (w1 := []) hP hD [] [] rfl rfl (by decide) (by decide) hk1 hFc hP1 hD1
  clear hP1 hK1 hD1 hPc hDc hFc hk1 hz1 hvm eth
  generalize H1 = H at hP hS ⊢
  have hP : va_P (dC, dI) vwCl [] H := hP
  have hD : va_D A [] := hD
  refine lv_istore_n (lv' := [(2, .int x1), (0, .int a0), (1, .int a1)]) hx hb dX4_wordOrNone_4 rfl hl (by decide) rfl (fun ls hl => ?_)
  refine lv_iload_n hx hb dX4_wordOrNone_5 rfl (lv_at hl 2 rfl) ?_
  refine lv_if_lt (tgt := 14) hx hb dX4_wordOrNone_6 (by decide) (fun c2 => ?_) (fun c2 => ?_)
  · replace hf := dg_t c2 hf
    refine lv_bipush (v := -9) hx hb dX4_wordOrNone_14 (by decide) ?_
    refine lv_goto (tgt := 25) hx hb dX4_wordOrNone_16 (by decide) ?_
    have he := Option.some.inj hf
    have hP9 := hP
    have hD9 := hD
    exact W.iret (v := (-9:Int32)) hx hb hr (fun t eth hW => ⟨⟨(-9:Int32), (), rfl, he.symm, by rw [eth]; exact hP9, va_K.moved hW.alike hK, hD9⟩, hS.F eth⟩) hS.2.2 dX4_wordOrNone_25
  · replace hf := dg_f c2 hf
    refine lv_iload_n hx hb dX4_wordOrNone_9 rfl (lv_at hl 2 rfl) ?_
    refine lv_iload_n hx hb dX4_wordOrNone_10 rfl (lv_at hl 0 rfl) ?_
    refine lv_icmp_lt (tgt := 19) hx hb dX4_wordOrNone_11 (by decide) (fun c3 => ?_) (fun c3 => ?_)
    · replace hf := dg_t c3 hf
      refine lv_iload_n hx hb dX4_wordOrNone_19 rfl (lv_at hl 1 rfl) ?_
      refine lv_iload_n hx hb dX4_wordOrNone_20 rfl (lv_at hl 0 rfl) ?_
      refine lv_iload_n hx hb dX4_wordOrNone_21 rfl (lv_at hl 2 rfl) ?_
      obtain ⟨x4, hx4, hf⟩ := dg_bind hf
      have hPc : va_P (dC, dI) vwCl [] H := hP.sub [] rfl
      have hDc : va_D A [] := hD.sub [] (by decide) rfl
      have hFc := va_free (wc := []) hD hS hA [] rfl
      refine va_calli (va_runS (As := [.int a0, .int x1, .int a1]) (rest := []) ⟨hx, hb, hml, hown, hts⟩ (k_X4_wordAt l dC dI cI cJ cZ H.size a0 x1 a1 N x4 hx4) (va_cwS 3 hts gX4_wordOrNone_X4_wordAt rfl rfl rfl hd_X4_wordAt ⟨Nat.le_of_ble_eq_true rfl, Nat.le_of_ble_eq_true rfl⟩) ⟨blind_pc, pre_pc hPc hK hDc⟩ rfl rfl hl.1 rfl (lv_room (Nat.le_of_ble_eq_true rfl)) dX4_wordOrNone_22 ⟨Nat.zero_le _, Nat.zero_le _⟩) hS (fun q _ h => hFc q h) hFc (fun r u t H1 locs eth hvm hw hB hz1 hk1 hS => ?_)
      obtain ⟨hP1, hK1, hD1⟩ := hB
      rw [eth] at hP1
      subst hw
      obtain ⟨hP, hD⟩ := va_join (wr := []) (w1 := []) hP hD [] [] rfl rfl (by decide) (by decide) hk1 hFc hP1 hD1
      clear hP1 hK1 hD1 hPc hDc hFc hk1 hz1 hvm eth
      generalize H1 = H at hP hS ⊢
      have hP : va_P (dC, dI) vwCl [] H := hP
      have hD : va_D A [] := hD
      have he := Option.some.inj hf
      have hP9 := hP
      have hD9 := hD
      exact W.iret (v := x4) hx hb hr (fun t eth hW => ⟨⟨x4, (), rfl, he.symm, by rw [eth]; exact hP9, va_K.moved hW.alike hK, hD9⟩, hS.F eth⟩) hS.2.2 dX4_wordOrNone_25
    · replace hf := dg_f c3 hf
      refine lv_bipush (v := -9) hx hb dX4_wordOrNone_14 (by decide) ?_
      refine lv_goto (tgt := 25) hx hb dX4_wordOrNone_16 (by decide) ?_
      have he := Option.some.inj hf
      have hP9 := hP
      have hD9 := hD
      exact W.iret (v := (-9:Int32)) hx hb hr (fun t eth hW => ⟨⟨(-9:Int32), (), rfl, he.symm, by rw [eth]; exact hP9, va_K.moved hW.alike hK, hD9⟩, hS.F eth⟩) hS.2.2 dX4_wordOrNone_25
theorem hd_X4_firstOf : yX4_firstOf.cls ≠ "java/lang/invoke/MethodHandle" ∧ yX4_firstOf.cls ≠ "java/lang/invoke/VarHandle" ∧ (parseMethodDescriptor yX4_firstOf.desc).map (fun d => d.parameters.length) = some 1 := by decide +kernel
abbrev rm_X4_firstOf : Room := { frames := 0, cells := 0, slots := 0, locals := 0 }
abbrev q_X4_firstOf (dC : Nat → ClassId) (dI : Nat → Nat → Nat) (cI cJ cZ : ClassId) (R : Int32) (A : Nat → Prop) : Array Value → State → Outcome → State → Prop := va_Qi (fun (r : Int32) (_ : Unit) => R = r) (fun (u : Unit) (t : State) => va_P (dC, dI) vwCl [] t.heap ∧ va_K (dC, dI) vwCl [(cI, .int), (cJ, .long), (cZ, .boolean)] t ∧ va_D A []) A
set_option maxHeartbeats 4000000 in
set_option maxRecDepth 100000 in
theorem k_X4_firstOf (l : Launch) (dC : Nat → ClassId) (dI : Nat → Nat → Nat) (cI cJ cZ : ClassId) (sz : Nat) (a0 : Int32) (N : Nat) (R : Int32) (hf : f_X4_firstOf N a0 = some R) : Met l yX4_firstOf wsX4_firstOf (rm_X4_firstOf) (va_Pc [.int a0] (fun U => U.heap.size = sz ∧ va_P (dC, dI) vwCl [] U.heap ∧ va_K (dC, dI) vwCl [(cI, .int), (cJ, .long), (cZ, .boolean)] U ∧ va_D (fun _ => True) [])) (q_X4_firstOf dC dI cI cJ cZ  R (va_A [] sz)) 0 0 (va_A [] sz) := by
  refine Met.ofW (cc := cX4_firstOf) (maxL := 1) (ret := (some .int)) (by decide) rfl ?_
  intro p e s m args below meth c s₁ B hml hv
  obtain ⟨rfl, hsz, hP, hK, hD0⟩ := hv
  have hx := B.exec
  have hb := B.bytes
  have hr := B.returns
  have hts := atoms_spec (ws := wsX4_firstOf) B.pre
  have hown : s.vm.findClass RX4 = some m.cls := findClass_of_methodNamed B.named
  have hlocks := B.notSynchronized
  clear B
  subst hsz
  have hD := hD0.self (sz := s.heap.size)
  clear hD0
  generalize hAe : va_A [] s.heap.size = A at hD ⊢
  have hA : ∀ q : Nat, s.heap.size ≤ q → A q := fun q h => by rw [← hAe]; exact Or.inr h
  clear hAe
  have hS : va_S A s.heap s.heap [] := va_S.rf
  have hl := lv_entry ([.int a0]) (n := 1) (Nat.le_of_ble_eq_true rfl)
  rw [lg_entry_eq]
  generalize (lg_sl ([.int a0]) ++ List.replicate (1 - (lg_sl ([.int a0])).length) Slot.unset).toArray = ls at hl ⊢
  have hl : lv_has ls 1 [(0, .int a0)] := hl
  unfold f_X4_firstOf at hf
  refine lv_iconst (v := 1) hx hb dX4_firstOf_0 (by decide) ?_
  refine lv_iconst (v := 2) hx hb dX4_firstOf_1 (by decide) ?_
  refine lv_iload_n hx hb dX4_firstOf_2 rfl (lv_at hl 0 rfl) ?_
  refine lv_imul hx hb dX4_firstOf_3 ?_
  refine lv_ishl hx hb dX4_firstOf_4 ?_
  have he := Option.some.inj hf
  have hP9 := hP
  have hD9 := hD
  exact W.iret (v := ((1:Int32) <<< (((2:Int32) * a0) &&& 31))) hx hb hr (fun t eth hW => ⟨⟨((1:Int32) <<< (((2:Int32) * a0) &&& 31)), (), rfl, he.symm, by rw [eth]; exact hP9, va_K.moved hW.alike hK, hD9⟩, hS.F eth⟩) hS.2.2 dX4_firstOf_5
theorem hd_X4_endOf : yX4_endOf.cls ≠ "java/lang/invoke/MethodHandle" ∧ yX4_endOf.cls ≠ "java/lang/invoke/VarHandle" ∧ (parseMethodDescriptor yX4_endOf.desc).map (fun d => d.parameters.length) = some 1 := by decide +kernel
abbrev rm_X4_endOf : Room := { frames := 0, cells := 0, slots := 0, locals := 0 }
abbrev q_X4_endOf (dC : Nat → ClassId) (dI : Nat → Nat → Nat) (cI cJ cZ : ClassId) (R : Int32) (A : Nat → Prop) : Array Value → State → Outcome → State → Prop := va_Qi (fun (r : Int32) (_ : Unit) => R = r) (fun (u : Unit) (t : State) => va_P (dC, dI) vwCl [] t.heap ∧ va_K (dC, dI) vwCl [(cI, .int), (cJ, .long), (cZ, .boolean)] t ∧ va_D A []) A
set_option maxHeartbeats 4000000 in
set_option maxRecDepth 100000 in
theorem k_X4_endOf (l : Launch) (dC : Nat → ClassId) (dI : Nat → Nat → Nat) (cI cJ cZ : ClassId) (sz : Nat) (a0 : Int32) (N : Nat) (R : Int32) (hf : f_X4_endOf N a0 = some R) : Met l yX4_endOf wsX4_endOf (rm_X4_endOf) (va_Pc [.int a0] (fun U => U.heap.size = sz ∧ va_P (dC, dI) vwCl [] U.heap ∧ va_K (dC, dI) vwCl [(cI, .int), (cJ, .long), (cZ, .boolean)] U ∧ va_D (fun _ => True) [])) (q_X4_endOf dC dI cI cJ cZ  R (va_A [] sz)) 0 0 (va_A [] sz) := by
  refine Met.ofW (cc := cX4_endOf) (maxL := 1) (ret := (some .int)) (by decide) rfl ?_
  intro p e s m args below meth c s₁ B hml hv
  obtain ⟨rfl, hsz, hP, hK, hD0⟩ := hv
  have hx := B.exec
  have hb := B.bytes
  have hr := B.returns
  have hts := atoms_spec (ws := wsX4_endOf) B.pre
  have hown : s.vm.findClass RX4 = some m.cls := findClass_of_methodNamed B.named
  have hlocks := B.notSynchronized
  clear B
  subst hsz
  have hD := hD0.self (sz := s.heap.size)
  clear hD0
  generalize hAe : va_A [] s.heap.size = A at hD ⊢
  have hA : ∀ q : Nat, s.heap.size ≤ q → A q := fun q h => by rw [← hAe]; exact Or.inr h
  clear hAe
  have hS : va_S A s.heap s.heap [] := va_S.rf
  have hl := lv_entry ([.int a0]) (n := 1) (Nat.le_of_ble_eq_true rfl)
  rw [lg_entry_eq]
  generalize (lg_sl ([.int a0]) ++ List.replicate (1 - (lg_sl ([.int a0])).length) Slot.unset).toArray = ls at hl ⊢
  have hl : lv_has ls 1 [(0, .int a0)] := hl
  unfold f_X4_endOf at hf
  refine lv_iconst (v := 2) hx hb dX4_endOf_0 (by decide) ?_
  refine lv_iconst (v := 2) hx hb dX4_endOf_1 (by decide) ?_
  refine lv_iload_n hx hb dX4_endOf_2 rfl (lv_at hl 0 rfl) ?_
  refine lv_imul hx hb dX4_endOf_3 ?_
  refine lv_ishl hx hb dX4_endOf_4 ?_
  have he := Option.some.inj hf
  have hP9 := hP
  have hD9 := hD
  exact W.iret (v := ((2:Int32) <<< (((2:Int32) * a0) &&& 31))) hx hb hr (fun t eth hW => ⟨⟨((2:Int32) <<< (((2:Int32) * a0) &&& 31)), (), rfl, he.symm, by rw [eth]; exact hP9, va_K.moved hW.alike hK, hD9⟩, hS.F eth⟩) hS.2.2 dX4_endOf_5
theorem hd_X4_asFigures : yX4_asFigures.cls ≠ "java/lang/invoke/MethodHandle" ∧ yX4_asFigures.cls ≠ "java/lang/invoke/VarHandle" ∧ (parseMethodDescriptor yX4_asFigures.desc).map (fun d => d.parameters.length) = some 1 := by decide +kernel
abbrev rm_X4_asFigures : Room := { frames := 1, cells := 0, slots := 0, locals := 22 }
abbrev q_X4_asFigures (dC : Nat → ClassId) (dI : Nat → Nat → Nat) (cI cJ cZ : ClassId) (R : Int32) (A : Nat → Prop) : Array Value → State → Outcome → State → Prop := va_Qi (fun (r : Int32) (_ : Unit) => R = r) (fun (u : Unit) (t : State) => va_P (dC, dI) vwCl [] t.heap ∧ va_K (dC, dI) vwCl [(cI, .int), (cJ, .long), (cZ, .boolean)] t ∧ va_D A []) A
set_option maxHeartbeats 4000000 in
set_option maxRecDepth 100000 in
theorem k_X4_asFigures (l : Launch) (dC : Nat → ClassId) (dI : Nat → Nat → Nat) (cI cJ cZ : ClassId) (sz : Nat) (a0 : Int32) (N : Nat) (R : Int32) (hf : f_X4_asFigures N a0 = some R) : Met l yX4_asFigures wsX4_asFigures (rm_X4_asFigures) (va_Pc [.int a0] (fun U => U.heap.size = sz ∧ va_P (dC, dI) vwCl [] U.heap ∧ va_K (dC, dI) vwCl [(cI, .int), (cJ, .long), (cZ, .boolean)] U ∧ va_D (fun _ => True) [])) (q_X4_asFigures dC dI cI cJ cZ  R (va_A [] sz)) 0 0 (va_A [] sz) := by
  refine Met.ofW (cc := cX4_asFigures) (maxL := 4) (ret := (some .int)) (by decide) rfl ?_
  intro p e s m args below meth c s₁ B hml hv
  obtain ⟨rfl, hsz, hP, hK, hD0⟩ := hv
  have hx := B.exec
  have hb := B.bytes
  have hr := B.returns
  have hts := atoms_spec (ws := wsX4_asFigures) B.pre
  have hown : s.vm.findClass RX4 = some m.cls := findClass_of_methodNamed B.named
  have hlocks := B.notSynchronized
  clear B
  subst hsz
  have hD := hD0.self (sz := s.heap.size)
  clear hD0
  generalize hAe : va_A [] s.heap.size = A at hD ⊢
  have hA : ∀ q : Nat, s.heap.size ≤ q → A q := fun q h => by rw [← hAe]; exact Or.inr h
  clear hAe
  have hS : va_S A s.heap s.heap [] := va_S.rf
  have hl := lv_entry ([.int a0]) (n := 4) (Nat.le_of_ble_eq_true rfl)
  rw [lg_entry_eq]
  generalize (lg_sl ([.int a0]) ++ List.replicate (4 - (lg_sl ([.int a0])).length) Slot.unset).toArray = ls at hl ⊢
  have hl : lv_has ls 4 [(0, .int a0)] := hl
  unfold f_X4_asFigures at hf
  refine lv_iload_n hx hb dX4_asFigures_0 rfl (lv_at hl 0 rfl) ?_
  obtain ⟨x1, hx1, hf⟩ := dg_bind hf
  have hPc : va_P (dC, dI) vwCl [] s.heap := hP.sub [] rfl
  have hDc : va_D A [] := hD.sub [] (by decide) rfl
  have hFc := va_free (wc := []) hD hS hA [] rfl
  refine va_calli (va_runS (As := [.int a0]) (rest := []) ⟨hx, hb, hml, hown, hts⟩ (k_X4_wordsIn l dC dI cI cJ cZ s.heap.size a0 N x1 hx1) (va_cwS 1 hts gX4_asFigures_X4_wordsIn rfl rfl rfl hd_X4_wordsIn ⟨Nat.le_of_ble_eq_true rfl, Nat.le_of_ble_eq_true rfl⟩) ⟨blind_pc, pre_pc hPc hK hDc⟩ rfl rfl hl.1 rfl (lv_room (Nat.le_of_ble_eq_true rfl)) dX4_asFigures_1 ⟨Nat.zero_le _, Nat.zero_le _⟩) hS (fun q _ h => hFc q h) hFc (fun r u t H1 locs eth hvm hw hB hz1 hk1 hS => ?_)
  obtain ⟨hP1, hK1, hD1⟩ := hB
  rw [eth] at hP1
  subst hw
  obtain ⟨hP, hD⟩ := va_join (wr := []) (w1 := []) hP hD [] [] rfl rfl (by decide) (by decide) hk1 hFc hP1 hD1
  clear hP1 hK1 hD1 hPc hDc hFc hk1 hz1 hvm eth
  generalize H1 = H at hP hS ⊢
  have hP : va_P (dC, dI) vwCl [] H := hP
  have hD : va_D A [] := hD
  refine lv_istore_n (lv' := [(1, .int x1), (0, .int a0)]) hx hb dX4_asFigures_4 rfl hl (by decide) rfl (fun ls hl => ?_)
  refine lv_iconst (v := 0) hx hb dX4_asFigures_5 (by decide) ?_
  refine lv_istore_n (lv' := [(2, .int (0:Int32)), (1, .int x1), (0, .int a0)]) hx hb dX4_asFigures_6 rfl hl (by decide) rfl (fun ls hl => ?_)
  refine lv_iconst (v := 0) hx hb dX4_asFigures_7 (by decide) ?_
  refine lv_istore_n (lv' := [(3, .int (0:Int32)), (2, .int (0:Int32)), (1, .int x1), (0, .int a0)]) hx hb dX4_asFigures_8 rfl hl (by decide) rfl (fun ls hl => ?_)
  have ex9 : ∀ (z2_9 : Int32) (z3_9 : Int32) (H : Heap) (locs : List Loc) (ls : Array Slot), va_P (dC, dI) vwCl [] H → va_D A [] → va_S A s.heap H locs → lv_has ls 4 [(3, .int z3_9), (2, .int z2_9), (1, .int x1), (0, .int a0)] → (some z2_9) = some R → W p l e (rm_X4_asFigures) s m ([.int a0] : List Value).toArray below meth c H locs 0 0 (MQ below (q_X4_asFigures dC dI cI cJ cZ  R A) ([.int a0] : List Value).toArray s 0 0 A) (F0 m 34 ls []) := by
    intro z2_9 z3_9 H locs ls hP hD hS hl hf
    refine lv_iload_n hx hb dX4_asFigures_34 rfl (lv_at hl 1 rfl) ?_
    have he := Option.some.inj hf
    have hP9 := hP
    have hD9 := hD
    exact W.iret (v := z2_9) hx hb hr (fun t eth hW => ⟨⟨z2_9, (), rfl, he.symm, by rw [eth]; exact hP9, va_K.moved hW.alike hK, hD9⟩, hS.F eth⟩) hS.2.2 dX4_asFigures_35
  have lp9 : ∀ (n9 : Nat) (y2_9 : Int32) (y3_9 : Int32) (H : Heap) (locs : List Loc) (ls : Array Slot), va_P (dC, dI) vwCl [] H → va_D A [] → va_S A s.heap H locs → lv_has ls 4 [(3, .int y3_9), (2, .int y2_9), (1, .int x1), (0, .int a0)] → f_X4_asFigures_9 N a0 x1 (fun z2_9 z3_9 => some z2_9) n9 y2_9 y3_9 = some R → W p l e (rm_X4_asFigures) s m ([.int a0] : List Value).toArray below meth c H locs 0 0 (MQ below (q_X4_asFigures dC dI cI cJ cZ  R A) ([.int a0] : List Value).toArray s 0 0 A) (F0 m 9 ls []) := by
    intro n9
    induction n9 with
    | zero => intro y2_9 y3_9 H locs ls hP hD hS hl hf; rw [f_X4_asFigures_9] at hf; cases hf
    | succ n9 ih9 =>
      intro y2_9 y3_9 H locs ls hP hD hS hl hf
      rw [f_X4_asFigures_9] at hf
      refine lv_iload_n hx hb dX4_asFigures_9 rfl (lv_at hl 0 rfl) ?_
      refine lv_iload_n hx hb dX4_asFigures_10 rfl (lv_at hl 2 rfl) ?_
      refine lv_icmp_ge (tgt := 34) hx hb dX4_asFigures_11 (by decide) (fun c2 => ?_) (fun c2 => ?_)
      · replace hf := dg_t c2 hf
        exact ex9 y2_9 y3_9 _ _ _ hP hD hS (lv_sub hl [0, 1, 2, 3] rfl) hf
      · replace hf := dg_f c2 hf
        refine lv_bipush (v := 10) hx hb dX4_asFigures_14 (by decide) ?_
        refine lv_iload_n hx hb dX4_asFigures_16 rfl (lv_at hl 1 rfl) ?_
        refine lv_imul hx hb dX4_asFigures_17 ?_
        refine lv_iload_n hx hb dX4_asFigures_18 rfl (lv_at hl 3 rfl) ?_
        refine lv_iload_n hx hb dX4_asFigures_19 rfl (lv_at hl 2 rfl) ?_
        refine lv_iload_n hx hb dX4_asFigures_20 rfl (lv_at hl 0 rfl) ?_
        obtain ⟨x3, hx3, hf⟩ := dg_bind hf
        have hPc : va_P (dC, dI) vwCl [] H := hP.sub [] rfl
        have hDc : va_D A [] := hD.sub [] (by decide) rfl
        have hFc := va_free (wc := []) hD hS hA [] rfl
        refine va_calli (va_runS (As := [.int a0, .int x1, .int y3_9]) (rest := [.int ((10:Int32) * y2_9)]) ⟨hx, hb, hml, hown, hts⟩ (k_X4_wordAt l dC dI cI cJ cZ H.size a0 x1 y3_9 N x3 hx3) (va_cwS 3 hts gX4_asFigures_X4_wordAt rfl rfl rfl hd_X4_wordAt ⟨Nat.le_of_ble_eq_true rfl, Nat.le_of_ble_eq_true rfl⟩) ⟨blind_pc, pre_pc hPc hK hDc⟩ rfl rfl hl.1 rfl (lv_room (Nat.le_of_ble_eq_true rfl)) dX4_asFigures_21 ⟨Nat.zero_le _, Nat.zero_le _⟩) hS (fun q _ h => hFc q h) hFc (fun r u t H1 locs eth hvm hw hB hz1 hk1 hS => ?_)
        obtain ⟨hP1, hK1, hD1⟩ := hB
        rw [eth] at hP1
        subst hw
        obtain ⟨hP, hD⟩ := va_join (wr := []) (w1 := []) hP hD [] [] rfl rfl (by decide) (by decide) hk1 hFc hP1 hD1
        clear hP1 hK1 hD1 hPc hDc hFc hk1 hz1 hvm eth
        generalize H1 = H at hP hS ⊢
        have hP : va_P (dC, dI) vwCl [] H := hP
        have hD : va_D A [] := hD
        refine lv_iadd hx hb dX4_asFigures_24 ?_
        refine lv_iconst (v := 1) hx hb dX4_asFigures_25 (by decide) ?_
        refine lv_iadd hx hb dX4_asFigures_26 ?_
        refine lv_istore_n (lv' := [(2, .int ((((10:Int32) * y2_9) + x3) + (1:Int32))), (3, .int y3_9), (1, .int x1), (0, .int a0)]) hx hb dX4_asFigures_27 rfl hl (by decide) rfl (fun ls hl => ?_)
        refine lv_iinc (v := (y3_9 + (1:Int32))) (lv' := [(3, .int (y3_9 + (1:Int32))), (2, .int ((((10:Int32) * y2_9) + x3) + (1:Int32))), (1, .int x1), (0, .int a0)]) hx hb dX4_asFigures_28 hl (k := 1) rfl (by first | rfl | decide) (by decide) rfl (fun ls hl => ?_)
        refine lv_goto (tgt := 9) hx hb dX4_asFigures_31 (by decide) ?_
        exact ih9 ((((10:Int32) * y2_9) + x3) + (1:Int32)) (y3_9 + (1:Int32)) _ _ _ hP hD hS (lv_sub hl [0, 1, 2, 3] rfl) hf
  exact lp9 N (0:Int32) (0:Int32) _ _ _ hP hD hS hl hf
theorem hd_X4_leavesIn : yX4_leavesIn.cls ≠ "java/lang/invoke/MethodHandle" ∧ yX4_leavesIn.cls ≠ "java/lang/invoke/VarHandle" ∧ (parseMethodDescriptor yX4_leavesIn.desc).map (fun d => d.parameters.length) = some 1 := by decide +kernel
abbrev rm_X4_leavesIn : Room := { frames := 1, cells := 0, slots := 0, locals := 22 }
abbrev q_X4_leavesIn (dC : Nat → ClassId) (dI : Nat → Nat → Nat) (cI cJ cZ : ClassId) (R : Int32) (A : Nat → Prop) : Array Value → State → Outcome → State → Prop := va_Qi (fun (r : Int32) (_ : Unit) => R = r) (fun (u : Unit) (t : State) => va_P (dC, dI) vwCl [] t.heap ∧ va_K (dC, dI) vwCl [(cI, .int), (cJ, .long), (cZ, .boolean)] t ∧ va_D A []) A
set_option maxHeartbeats 4000000 in
set_option maxRecDepth 100000 in
theorem k_X4_leavesIn (l : Launch) (dC : Nat → ClassId) (dI : Nat → Nat → Nat) (cI cJ cZ : ClassId) (sz : Nat) (a0 : Int32) (N : Nat) (R : Int32) (hf : f_X4_leavesIn N a0 = some R) : Met l yX4_leavesIn wsX4_leavesIn (rm_X4_leavesIn) (va_Pc [.int a0] (fun U => U.heap.size = sz ∧ va_P (dC, dI) vwCl [] U.heap ∧ va_K (dC, dI) vwCl [(cI, .int), (cJ, .long), (cZ, .boolean)] U ∧ va_D (fun _ => True) [])) (q_X4_leavesIn dC dI cI cJ cZ  R (va_A [] sz)) 0 0 (va_A [] sz) := by
  refine Met.ofW (cc := cX4_leavesIn) (maxL := 1) (ret := (some .int)) (by decide) rfl ?_
  intro p e s m args below meth c s₁ B hml hv
  obtain ⟨rfl, hsz, hP, hK, hD0⟩ := hv
  have hx := B.exec
  have hb := B.bytes
  have hr := B.returns
  have hts := atoms_spec (ws := wsX4_leavesIn) B.pre
  have hown : s.vm.findClass RX4 = some m.cls := findClass_of_methodNamed B.named
  have hlocks := B.notSynchronized
  clear B
  subst hsz
  have hD := hD0.self (sz := s.heap.size)
  clear hD0
  generalize hAe : va_A [] s.heap.size = A at hD ⊢
  have hA : ∀ q : Nat, s.heap.size ≤ q → A q := fun q h => by rw [← hAe]; exact Or.inr h
  clear hAe
  have hS : va_S A s.heap s.heap [] := va_S.rf
  have hl := lv_entry ([.int a0]) (n := 1) (Nat.le_of_ble_eq_true rfl)
  rw [lg_entry_eq]
  generalize (lg_sl ([.int a0]) ++ List.replicate (1 - (lg_sl ([.int a0])).length) Slot.unset).toArray = ls at hl ⊢
  have hl : lv_has ls 1 [(0, .int a0)] := hl
  unfold f_X4_leavesIn at hf
  refine lv_iload_n hx hb dX4_leavesIn_0 rfl (lv_at hl 0 rfl) ?_
  obtain ⟨x1, hx1, hf⟩ := dg_bind hf
  have hPc : va_P (dC, dI) vwCl [] s.heap := hP.sub [] rfl
  have hDc : va_D A [] := hD.sub [] (by decide) rfl
  have hFc := va_free (wc := []) hD hS hA [] rfl
  refine va_calli (va_runS (As := [.int a0]) (rest := []) ⟨hx, hb, hml, hown, hts⟩ (k_X4_wordsIn l dC dI cI cJ cZ s.heap.size a0 N x1 hx1) (va_cwS 1 hts gX4_leavesIn_X4_wordsIn rfl rfl rfl hd_X4_wordsIn ⟨Nat.le_of_ble_eq_true rfl, Nat.le_of_ble_eq_true rfl⟩) ⟨blind_pc, pre_pc hPc hK hDc⟩ rfl rfl hl.1 rfl (lv_room (Nat.le_of_ble_eq_true rfl)) dX4_leavesIn_1 ⟨Nat.zero_le _, Nat.zero_le _⟩) hS (fun q _ h => hFc q h) hFc (fun r u t H1 locs eth hvm hw hB hz1 hk1 hS => ?_)
  obtain ⟨hP1, hK1, hD1⟩ := hB
  rw [eth] at hP1
  subst hw
  obtain ⟨hP, hD⟩ := va_join (wr := []) (w1 := []) hP hD [] [] rfl rfl (by decide) (by decide) hk1 hFc hP1 hD1
  clear hP1 hK1 hD1 hPc hDc hFc hk1 hz1 hvm eth
  generalize H1 = H at hP hS ⊢
  have hP : va_P (dC, dI) vwCl [] H := hP
  have hD : va_D A [] := hD
  refine lv_iconst (v := 1) hx hb dX4_leavesIn_4 (by decide) ?_
  refine lv_iadd hx hb dX4_leavesIn_5 ?_
  refine lv_iconst (v := 2) hx hb dX4_leavesIn_6 (by decide) ?_
  refine lv_idiv hx hb dX4_leavesIn_7 (by decide) ?_
  have he := Option.some.inj hf
  have hP9 := hP
  have hD9 := hD
  exact W.iret (v := ((x1 + (1:Int32)) / (2:Int32))) hx hb hr (fun t eth hW => ⟨⟨((x1 + (1:Int32)) / (2:Int32)), (), rfl, he.symm, by rw [eth]; exact hP9, va_K.moved hW.alike hK, hD9⟩, hS.F eth⟩) hS.2.2 dX4_leavesIn_8
theorem hd_X4_withLeaf : yX4_withLeaf.cls ≠ "java/lang/invoke/MethodHandle" ∧ yX4_withLeaf.cls ≠ "java/lang/invoke/VarHandle" ∧ (parseMethodDescriptor yX4_withLeaf.desc).map (fun d => d.parameters.length) = some 3 := by decide +kernel
abbrev rm_X4_withLeaf : Room := { frames := 1, cells := 0, slots := 0, locals := 30 }
abbrev q_X4_withLeaf (dC : Nat → ClassId) (dI : Nat → Nat → Nat) (cI cJ cZ : ClassId) (R : Int32) (A : Nat → Prop) : Array Value → State → Outcome → State → Prop := va_Qi (fun (r : Int32) (_ : Unit) => R = r) (fun (u : Unit) (t : State) => va_P (dC, dI) vwCl [] t.heap ∧ va_K (dC, dI) vwCl [(cI, .int), (cJ, .long), (cZ, .boolean)] t ∧ va_D A []) A
set_option maxHeartbeats 4000000 in
set_option maxRecDepth 100000 in
theorem k_X4_withLeaf (l : Launch) (dC : Nat → ClassId) (dI : Nat → Nat → Nat) (cI cJ cZ : ClassId) (sz : Nat) (a0 : Int32) (a1 : Int32) (a2 : Int32) (N : Nat) (R : Int32) (hf : f_X4_withLeaf N a0 a1 a2 = some R) : Met l yX4_withLeaf wsX4_withLeaf (rm_X4_withLeaf) (va_Pc [.int a0, .int a1, .int a2] (fun U => U.heap.size = sz ∧ va_P (dC, dI) vwCl [] U.heap ∧ va_K (dC, dI) vwCl [(cI, .int), (cJ, .long), (cZ, .boolean)] U ∧ va_D (fun _ => True) [])) (q_X4_withLeaf dC dI cI cJ cZ  R (va_A [] sz)) 0 0 (va_A [] sz) := by
  refine Met.ofW (cc := cX4_withLeaf) (maxL := 7) (ret := (some .int)) (by decide) rfl ?_
  intro p e s m args below meth c s₁ B hml hv
  obtain ⟨rfl, hsz, hP, hK, hD0⟩ := hv
  have hx := B.exec
  have hb := B.bytes
  have hr := B.returns
  have hts := atoms_spec (ws := wsX4_withLeaf) B.pre
  have hown : s.vm.findClass RX4 = some m.cls := findClass_of_methodNamed B.named
  have hlocks := B.notSynchronized
  clear B
  subst hsz
  have hw0 := hts (.methodLink RX4 19 Lib.Math.min.name) (by decide +kernel)
  have hw1 := hts (.static Lib.Math.min.name) (by decide +kernel)
  have hw2 := hts (.initialized "java/lang/Math") (by decide +kernel)
  have hw3 := hts (.code Lib.Math.min.name Lib.Math.min.code 2 (some .int)) (List.mem_of_getElem? (i := 4) rfl)
  have hD := hD0.self (sz := s.heap.size)
  clear hD0
  generalize hAe : va_A [] s.heap.size = A at hD ⊢
  have hA : ∀ q : Nat, s.heap.size ≤ q → A q := fun q h => by rw [← hAe]; exact Or.inr h
  clear hAe
  have hS : va_S A s.heap s.heap [] := va_S.rf
  have hl := lv_entry ([.int a0, .int a1, .int a2]) (n := 7) (Nat.le_of_ble_eq_true rfl)
  rw [lg_entry_eq]
  generalize (lg_sl ([.int a0, .int a1, .int a2]) ++ List.replicate (7 - (lg_sl ([.int a0, .int a1, .int a2])).length) Slot.unset).toArray = ls at hl ⊢
  have hl : lv_has ls 7 [(0, .int a0), (1, .int a1), (2, .int a2)] := hl
  unfold f_X4_withLeaf at hf
  refine lv_iload_n hx hb dX4_withLeaf_0 rfl (lv_at hl 1 rfl) ?_
  obtain ⟨x1, hx1, hf⟩ := dg_bind hf
  have hPc : va_P (dC, dI) vwCl [] s.heap := hP.sub [] rfl
  have hDc : va_D A [] := hD.sub [] (by decide) rfl
  have hFc := va_free (wc := []) hD hS hA [] rfl
  refine va_calli (va_runS (As := [.int a1]) (rest := []) ⟨hx, hb, hml, hown, hts⟩ (k_X4_wordsIn l dC dI cI cJ cZ s.heap.size a1 N x1 hx1) (va_cwS 1 hts gX4_withLeaf_X4_wordsIn rfl rfl rfl hd_X4_wordsIn ⟨Nat.le_of_ble_eq_true rfl, Nat.le_of_ble_eq_true rfl⟩) ⟨blind_pc, pre_pc hPc hK hDc⟩ rfl rfl hl.1 rfl (lv_room (Nat.le_of_ble_eq_true rfl)) dX4_withLeaf_1 ⟨Nat.zero_le _, Nat.zero_le _⟩) hS (fun q _ h => hFc q h) hFc (fun r u t H1 locs eth hvm hw hB hz1 hk1 hS => ?_)
  obtain ⟨hP1, hK1, hD1⟩ := hB
  rw [eth] at hP1
  subst hw
  obtain ⟨hP, hD⟩ := va_join (wr := []) (w1 := []) hP hD [] [] rfl rfl (by decide) (by decide) hk1 hFc hP1 hD1
  clear hP1 hK1 hD1 hPc hDc hFc hk1 hz1 hvm eth
  generalize H1 = H at hP hS ⊢
  have hP : va_P (dC, dI) vwCl [] H := hP
  have hD : va_D A [] := hD
  refine lv_istore_n (lv' := [(3, .int x1), (0, .int a0), (1, .int a1), (2, .int a2)]) hx hb dX4_withLeaf_4 rfl hl (by decide) rfl (fun ls hl => ?_)
  refine lv_iconst (v := 2) hx hb dX4_withLeaf_5 (by decide) ?_
  refine lv_iload_n hx hb dX4_withLeaf_6 rfl (lv_at hl 3 rfl) ?_
  refine lv_imul hx hb dX4_withLeaf_7 ?_
  refine lv_iconst (v := 2) hx hb dX4_withLeaf_8 (by decide) ?_
  refine lv_iadd hx hb dX4_withLeaf_9 ?_
  refine lv_iload_n hx hb dX4_withLeaf_10 rfl (lv_at hl 0 rfl) ?_
  refine va_mmin hx hb (by rw [hml]; exact hl.1.symm) hown hw0 hw1 hw2 hw3 (Nat.le_of_ble_eq_true rfl) (Nat.le_of_ble_eq_true rfl) (Nat.zero_le _) (Nat.zero_le _) dX4_withLeaf_11 ?_
  refine lv_istore (lv' := [(4, .int (if x1 < (((2:Int32) * a2) + (2:Int32)) then x1 else (((2:Int32) * a2) + (2:Int32)))), (3, .int x1), (0, .int a0), (1, .int a1), (2, .int a2)]) hx hb dX4_withLeaf_14 hl (by decide) rfl (fun ls hl => ?_)
  refine lv_iload_n hx hb dX4_withLeaf_16 rfl (lv_at hl 2 rfl) ?_
  refine lv_istore (lv' := [(5, .int a0), (4, .int (if x1 < (((2:Int32) * a2) + (2:Int32)) then x1 else (((2:Int32) * a2) + (2:Int32)))), (3, .int x1), (0, .int a0), (1, .int a1), (2, .int a2)]) hx hb dX4_withLeaf_17 hl (by decide) rfl (fun ls hl => ?_)
  refine lv_iconst (v := 2) hx hb dX4_withLeaf_19 (by decide) ?_
  refine lv_iload_n hx hb dX4_withLeaf_20 rfl (lv_at hl 5 rfl) ?_
  refine lv_imul hx hb dX4_withLeaf_21 ?_
  refine lv_istore (lv' := [(6, .int ((2:Int32) * a2)), (5, .int a0), (4, .int (if x1 < (((2:Int32) * a2) + (2:Int32)) then x1 else (((2:Int32) * a2) + (2:Int32)))), (3, .int x1), (0, .int a0), (1, .int a1), (2, .int a2)]) hx hb dX4_withLeaf_22 hl (by decide) rfl (fun ls hl => ?_)
  have ex24 : ∀ (z5_24 : Int32) (z6_24 : Int32) (H : Heap) (locs : List Loc) (ls : Array Slot), va_P (dC, dI) vwCl [] H → va_D A [] → va_S A s.heap H locs → lv_has ls 7 [(6, .int z6_24), (5, .int z5_24), (4, .int (if x1 < (((2:Int32) * a2) + (2:Int32)) then x1 else (((2:Int32) * a2) + (2:Int32)))), (3, .int x1), (0, .int a0), (1, .int a1), (2, .int a2)] → (some z5_24) = some R → W p l e (rm_X4_withLeaf) s m ([.int a0, .int a1, .int a2] : List Value).toArray below meth c H locs 0 0 (MQ below (q_X4_withLeaf dC dI cI cJ cZ  R A) ([.int a0, .int a1, .int a2] : List Value).toArray s 0 0 A) (F0 m 51 ls []) := by
    intro z5_24 z6_24 H locs ls hP hD hS hl hf
    refine lv_iload hx hb dX4_withLeaf_51 (lv_at hl 1 rfl) ?_
    have he := Option.some.inj hf
    have hP9 := hP
    have hD9 := hD
    exact W.iret (v := z5_24) hx hb hr (fun t eth hW => ⟨⟨z5_24, (), rfl, he.symm, by rw [eth]; exact hP9, va_K.moved hW.alike hK, hD9⟩, hS.F eth⟩) hS.2.2 dX4_withLeaf_53
  have lp24 : ∀ (n24 : Nat) (y5_24 : Int32) (y6_24 : Int32) (H : Heap) (locs : List Loc) (ls : Array Slot), va_P (dC, dI) vwCl [] H → va_D A [] → va_S A s.heap H locs → lv_has ls 7 [(6, .int y6_24), (5, .int y5_24), (4, .int (if x1 < (((2:Int32) * a2) + (2:Int32)) then x1 else (((2:Int32) * a2) + (2:Int32)))), (3, .int x1), (0, .int a0), (1, .int a1), (2, .int a2)] → f_X4_withLeaf_24 N a1 a2 x1 (fun z5_24 z6_24 => some z5_24) n24 y5_24 y6_24 = some R → W p l e (rm_X4_withLeaf) s m ([.int a0, .int a1, .int a2] : List Value).toArray below meth c H locs 0 0 (MQ below (q_X4_withLeaf dC dI cI cJ cZ  R A) ([.int a0, .int a1, .int a2] : List Value).toArray s 0 0 A) (F0 m 24 ls []) := by
    intro n24
    induction n24 with
    | zero => intro y5_24 y6_24 H locs ls hP hD hS hl hf; rw [f_X4_withLeaf_24] at hf; cases hf
    | succ n24 ih24 =>
      intro y5_24 y6_24 H locs ls hP hD hS hl hf
      rw [f_X4_withLeaf_24] at hf
      refine lv_iload hx hb dX4_withLeaf_24 (lv_at hl 0 rfl) ?_
      refine lv_iload hx hb dX4_withLeaf_26 (lv_at hl 2 rfl) ?_
      refine lv_icmp_ge (tgt := 51) hx hb dX4_withLeaf_28 (by decide) (fun c2 => ?_) (fun c2 => ?_)
      · replace hf := dg_t c2 hf
        exact ex24 y5_24 y6_24 _ _ _ hP hD hS (lv_sub hl [0, 1, 2, 3, 4, 5, 6] rfl) hf
      · replace hf := dg_f c2 hf
        refine lv_iload hx hb dX4_withLeaf_31 (lv_at hl 1 rfl) ?_
        refine lv_iload_n hx hb dX4_withLeaf_33 rfl (lv_at hl 5 rfl) ?_
        refine lv_iload_n hx hb dX4_withLeaf_34 rfl (lv_at hl 3 rfl) ?_
        refine lv_iload hx hb dX4_withLeaf_35 (lv_at hl 0 rfl) ?_
        obtain ⟨x3, hx3, hf⟩ := dg_bind hf
        have hPc : va_P (dC, dI) vwCl [] H := hP.sub [] rfl
        have hDc : va_D A [] := hD.sub [] (by decide) rfl
        have hFc := va_free (wc := []) hD hS hA [] rfl
        refine va_calli (va_runS (As := [.int a1, .int x1, .int y6_24]) (rest := [.int y5_24]) ⟨hx, hb, hml, hown, hts⟩ (k_X4_wordAt l dC dI cI cJ cZ H.size a1 x1 y6_24 N x3 hx3) (va_cwS 3 hts gX4_withLeaf_X4_wordAt rfl rfl rfl hd_X4_wordAt ⟨Nat.le_of_ble_eq_true rfl, Nat.le_of_ble_eq_true rfl⟩) ⟨blind_pc, pre_pc hPc hK hDc⟩ rfl rfl hl.1 rfl (lv_room (Nat.le_of_ble_eq_true rfl)) dX4_withLeaf_37 ⟨Nat.zero_le _, Nat.zero_le _⟩) hS (fun q _ h => hFc q h) hFc (fun r u t H1 locs eth hvm hw hB hz1 hk1 hS => ?_)
        obtain ⟨hP1, hK1, hD1⟩ := hB
        rw [eth] at hP1
        subst hw
        obtain ⟨hP, hD⟩ := va_join (wr := []) (w1 := []) hP hD [] [] rfl rfl (by decide) (by decide) hk1 hFc hP1 hD1
        clear hP1 hK1 hD1 hPc hDc hFc hk1 hz1 hvm eth
        generalize H1 = H at hP hS ⊢
        have hP : va_P (dC, dI) vwCl [] H := hP
        have hD : va_D A [] := hD
        obtain ⟨x4, hx4, hf⟩ := dg_bind hf
        have hPc : va_P (dC, dI) vwCl [] H := hP.sub [] rfl
        have hDc : va_D A [] := hD.sub [] (by decide) rfl
        have hFc := va_free (wc := []) hD hS hA [] rfl
        refine va_calli (va_runS (As := [.int y5_24, .int x3]) (rest := []) ⟨hx, hb, hml, hown, hts⟩ (k_X4_with l dC dI cI cJ cZ H.size y5_24 x3 N x4 hx4) (va_cwS 2 hts gX4_withLeaf_X4_with rfl rfl rfl hd_X4_with ⟨Nat.le_of_ble_eq_true rfl, Nat.le_of_ble_eq_true rfl⟩) ⟨blind_pc, pre_pc hPc hK hDc⟩ rfl rfl hl.1 rfl (lv_room (Nat.le_of_ble_eq_true rfl)) dX4_withLeaf_40 ⟨Nat.zero_le _, Nat.zero_le _⟩) hS (fun q _ h => hFc q h) hFc (fun r u t H1 locs eth hvm hw hB hz1 hk1 hS => ?_)
        obtain ⟨hP1, hK1, hD1⟩ := hB
        rw [eth] at hP1
        subst hw
        obtain ⟨hP, hD⟩ := va_join (wr := []) (w1 := []) hP hD [] [] rfl rfl (by decide) (by decide) hk1 hFc hP1 hD1
        clear hP1 hK1 hD1 hPc hDc hFc hk1 hz1 hvm eth
        generalize H1 = H at hP hS ⊢
        have hP : va_P (dC, dI) vwCl [] H := hP
        have hD : va_D A [] := hD
        refine lv_istore (lv' := [(5, .int x4), (6, .int y6_24), (4, .int (if x1 < (((2:Int32) * a2) + (2:Int32)) then x1 else (((2:Int32) * a2) + (2:Int32)))), (3, .int x1), (0, .int a0), (1, .int a1), (2, .int a2)]) hx hb dX4_withLeaf_43 hl (by decide) rfl (fun ls hl => ?_)
        refine lv_iinc (v := (y6_24 + (1:Int32))) (lv' := [(6, .int (y6_24 + (1:Int32))), (5, .int x4), (4, .int (if x1 < (((2:Int32) * a2) + (2:Int32)) then x1 else (((2:Int32) * a2) + (2:Int32)))), (3, .int x1), (0, .int a0), (1, .int a1), (2, .int a2)]) hx hb dX4_withLeaf_45 hl (k := 1) rfl (by first | rfl | decide) (by decide) rfl (fun ls hl => ?_)
        refine lv_goto (tgt := 24) hx hb dX4_withLeaf_48 (by decide) ?_
        exact ih24 x4 (y6_24 + (1:Int32)) _ _ _ hP hD hS (lv_sub hl [0, 1, 2, 3, 4, 5, 6] rfl) hf
  exact lp24 N a0 ((2:Int32) * a2) _ _ _ hP hD hS hl hf
theorem hd_X5_write : yX5_write.cls = RX5 ∧ yX5_write.cls ≠ "java/lang/invoke/MethodHandle" ∧ yX5_write.cls ≠ "java/lang/invoke/VarHandle" ∧ (parseMethodDescriptor yX5_write.desc).map (fun d => d.parameters.length) = some 1 := by decide +kernel
abbrev rm_X5_write : Room := { frames := 1, cells := 0, slots := 0, locals := 21 }
abbrev q_X5_write (dC : Nat → ClassId) (dI : Nat → Nat → Nat) (cI cJ cZ : ClassId) (ht ht_text ht_bench ht_acts ht_drawers ht_told ht_pagesOfTrial ht_kept ht_text_letters : Nat) (vt_spoken : Int32) (vt_nowSeed : Int64) (R : Int32 × Int32 × (Nat → Int32)) (A : Nat → Prop) : Array Value → State → Outcome → State → Prop := va_Qi (fun (r : Int32) (u : Int32 × (Nat → Int32)) => R.1 = r ∧ R.2 = u) (fun (u : Int32 × (Nat → Int32)) (t : State) => va_P (dC, dI) vwCl [(ht, .inr (4, [.ref ht_text, .ref ht_bench, .ref ht_acts, .ref ht_drawers, .ref ht_told, .ref ht_pagesOfTrial, .ref ht_kept, .int vt_spoken, .long vt_nowSeed])), (ht_text, .inr (2, [.ref ht_text_letters, .int u.1])), (ht_text_letters, .inl (cI, 32, .inl u.2))] t.heap ∧ va_K (dC, dI) vwCl [(cI, .int), (cJ, .long), (cZ, .boolean)] t ∧ va_D A [(ht, .inr (4, [.ref ht_text, .ref ht_bench, .ref ht_acts, .ref ht_drawers, .ref ht_told, .ref ht_pagesOfTrial, .ref ht_kept, .int vt_spoken, .long vt_nowSeed])), (ht_text, .inr (2, [.ref ht_text_letters, .int u.1])), (ht_text_letters, .inl (cI, 32, .inl u.2))]) A
set_option maxHeartbeats 4000000 in
set_option maxRecDepth 100000 in
theorem k_X5_write (l : Launch) (dC : Nat → ClassId) (dI : Nat → Nat → Nat) (cI cJ cZ : ClassId) (sz : Nat) (ht ht_text ht_bench ht_acts ht_drawers ht_told ht_pagesOfTrial ht_kept ht_text_letters : Nat) (a1 : Int32) (vt_spoken : Int32) (vt_nowSeed : Int64) (vt_text_size : Int32) (vt_text_letters : Nat → Int32) (N : Nat) (R : Int32 × Int32 × (Nat → Int32)) (hf : f_X5_write N a1 vt_text_size vt_text_letters = some R) : Met l yX5_write wsX5_write (rm_X5_write) (va_Pc [.ref ht, .int a1] (fun U => U.heap.size = sz ∧ va_P (dC, dI) vwCl [(ht, .inr (4, [.ref ht_text, .ref ht_bench, .ref ht_acts, .ref ht_drawers, .ref ht_told, .ref ht_pagesOfTrial, .ref ht_kept, .int vt_spoken, .long vt_nowSeed])), (ht_text, .inr (2, [.ref ht_text_letters, .int vt_text_size])), (ht_text_letters, .inl (cI, 32, .inl vt_text_letters))] U.heap ∧ va_K (dC, dI) vwCl [(cI, .int), (cJ, .long), (cZ, .boolean)] U ∧ va_D (fun _ => True) [(ht, .inr (4, [.ref ht_text, .ref ht_bench, .ref ht_acts, .ref ht_drawers, .ref ht_told, .ref ht_pagesOfTrial, .ref ht_kept, .int vt_spoken, .long vt_nowSeed])), (ht_text, .inr (2, [.ref ht_text_letters, .int vt_text_size])), (ht_text_letters, .inl (cI, 32, .inl vt_text_letters))])) (q_X5_write dC dI cI cJ cZ ht ht_text ht_bench ht_acts ht_drawers ht_told ht_pagesOfTrial ht_kept ht_text_letters vt_spoken vt_nowSeed R (va_A [(ht, .inr (4, [.ref ht_text, .ref ht_bench, .ref ht_acts, .ref ht_drawers, .ref ht_told, .ref ht_pagesOfTrial, .ref ht_kept, .int vt_spoken, .long vt_nowSeed])), (ht_text, .inr (2, [.ref ht_text_letters, .int vt_text_size])), (ht_text_letters, .inl (cI, 32, .inl vt_text_letters))] sz)) 0 0 (va_A [(ht, .inr (4, [.ref ht_text, .ref ht_bench, .ref ht_acts, .ref ht_drawers, .ref ht_told, .ref ht_pagesOfTrial, .ref ht_kept, .int vt_spoken, .long vt_nowSeed])), (ht_text, .inr (2, [.ref ht_text_letters, .int vt_text_size])), (ht_text_letters, .inl (cI, 32, .inl vt_text_letters))] sz) := by
  refine Met.ofW (cc := cX5_write) (maxL := 2) (ret := (some .int)) (by decide) rfl ?_
  intro p e s m args below meth c s₁ B hml hv
  obtain ⟨rfl, hsz, hP, hK, hD0⟩ := hv
  have hx := B.exec
  have hb := B.bytes
  have hr := B.returns
  have hts := atoms_spec (ws := wsX5_write) B.pre
  have hown : s.vm.findClass RX5 = some m.cls := findClass_of_methodNamed B.named
  have hlocks := B.notSynchronized
  clear B
  subst hsz
  have hw0 := hts (.fieldLink RX5 12 "ShorthandCourt" "text" "LShorthandCourt$CourtText;") (by decide +kernel)
  have hw1 := hts (.fieldLink RX5 58 "ShorthandCourt$CourtText" "size" "I") (by decide +kernel)
  have hinX2 : ∀ w ∈ u_ws RX2 TX2 2, w ∈ wsX5_write := by decide +kernel
  have hinX5 : ∀ w ∈ u_ws RX5 TX5 9, w ∈ wsX5_write := by decide +kernel
  have hD := hD0.self (sz := s.heap.size)
  clear hD0
  generalize hAe : va_A [(ht, .inr (4, [.ref ht_text, .ref ht_bench, .ref ht_acts, .ref ht_drawers, .ref ht_told, .ref ht_pagesOfTrial, .ref ht_kept, .int vt_spoken, .long vt_nowSeed])), (ht_text, .inr (2, [.ref ht_text_letters, .int vt_text_size])), (ht_text_letters, .inl (cI, 32, .inl vt_text_letters))] s.heap.size = A at hD ⊢
  have hA : ∀ q : Nat, s.heap.size ≤ q → A q := fun q h => by rw [← hAe]; exact Or.inr h
  clear hAe
  have hS : va_S A s.heap s.heap [] := va_S.rf
  have hl := lv_entry ([.ref ht, .int a1]) (n := 2) (Nat.le_of_ble_eq_true rfl)
  rw [lg_entry_eq]
  generalize (lg_sl ([.ref ht, .int a1]) ++ List.replicate (2 - (lg_sl ([.ref ht, .int a1])).length) Slot.unset).toArray = ls at hl ⊢
  have hl : lv_has ls 2 [(0, .ref ht), (1, .int a1)] := hl
  unfold f_X5_write at hf
  refine lv_iload_n hx hb dX5_write_0 rfl (lv_at hl 1 rfl) ?_
  refine lv_if_lt (tgt := 11) hx hb dX5_write_1 (by decide) (fun c1 => ?_) (fun c1 => ?_)
  · replace hf := dg_t c1 hf
    refine lv_bipush (v := -2) hx hb dX5_write_11 (by decide) ?_
    have he := Option.some.inj hf
    have hP9 := hP
    have hD9 := hD
    exact W.iret (v := (-2:Int32)) hx hb hr (fun t eth hW => ⟨⟨(-2:Int32), (vt_text_size, vt_text_letters), rfl, ⟨(congrArg Prod.fst he).symm, (congrArg Prod.snd he).symm⟩, by rw [eth]; exact hP9, va_K.moved hW.alike hK, hD9⟩, hS.F eth⟩) hS.2.2 dX5_write_13
  · replace hf := dg_f c1 hf
    refine lv_iload_n hx hb dX5_write_4 rfl (lv_at hl 1 rfl) ?_
    refine lv_sipush (v := 255) hx hb dX5_write_5 (by decide) ?_
    refine lv_icmp_le (tgt := 14) hx hb dX5_write_8 (by decide) (fun c2 => ?_) (fun c2 => ?_)
    · replace hf := dg_t c2 hf
      refine lv_aload_n hx hb dX5_write_14 rfl (lv_at hl 0 rfl) ?_
      refine va_get (D := (dC, dI)) (ci := 4) (v := .ref ht_text) (C := RX5) (T := TX5) (N := 9) hx hb hts hinX5 hown hK hP 0 rfl rfl 0 (by decide) hw0 (fun _ h9 => h9) rfl dX5_write_15 ?_
      refine va_get (D := (dC, dI)) (ci := 2) (v := .int vt_text_size) (C := RX2) (T := TX2) (N := 2) hx hb hts hinX2 hown hK hP 1 rfl rfl 1 (by decide) hw1 (fun _ h9 => h9) rfl dX5_write_18 ?_
      refine lv_bipush (v := 32) hx hb dX5_write_21 (by decide) ?_
      refine lv_icmp_lt (tgt := 29) hx hb dX5_write_23 (by decide) (fun c3 => ?_) (fun c3 => ?_)
      · replace hf := dg_t c3 hf
        refine lv_aload_n hx hb dX5_write_29 rfl (lv_at hl 0 rfl) ?_
        refine va_get (D := (dC, dI)) (ci := 4) (v := .ref ht_text) (C := RX5) (T := TX5) (N := 9) hx hb hts hinX5 hown hK hP 0 rfl rfl 0 (by decide) hw0 (fun _ h9 => h9) rfl dX5_write_30 ?_
        refine lv_iload_n hx hb dX5_write_33 rfl (lv_at hl 1 rfl) ?_
        obtain ⟨x4, hx4, hf⟩ := dg_bind hf
        have hPc : va_P (dC, dI) vwCl [(ht_text, .inr (2, [.ref ht_text_letters, .int vt_text_size])), (ht_text_letters, .inl (cI, 32, .inl vt_text_letters))] s.heap := hP.sub [1, 2] rfl
        have hDc : va_D A [(ht_text, .inr (2, [.ref ht_text_letters, .int vt_text_size])), (ht_text_letters, .inl (cI, 32, .inl vt_text_letters))] := hD.sub [1, 2] (by decide) rfl
        have hFc := va_free (wc := [(ht_text, .inr (2, [.ref ht_text_letters, .int vt_text_size])), (ht_text_letters, .inl (cI, 32, .inl vt_text_letters))]) hD hS hA [1, 2] rfl
        refine va_callv (va_runV (As := [.int a1]) (rest := []) ⟨hx, hb, hml, hown, hts⟩ (k_X2_add l dC dI cI cJ cZ s.heap.size ht_text ht_text_letters a1 vt_text_size vt_text_letters N x4 hx4) (cwV 1 hts gX5_write_X2_add rfl rfl rfl hd_X2_add ⟨Nat.le_of_ble_eq_true rfl, Nat.le_of_ble_eq_true rfl⟩) ⟨blind_pc, va_recv hK hPc (ci := 2) (q0 := 0) rfl rfl, pre_pc hPc hK hDc⟩ rfl rfl hl.1 rfl (lv_room (Nat.le_of_ble_eq_true rfl)) dX5_write_34 ⟨Nat.zero_le _, Nat.zero_le _⟩) hS (fun q _ h => hFc q h) hFc (fun u t H1 locs eth hvm hw hB hz1 hk1 hS => ?_)
        obtain ⟨hP1, hK1, hD1⟩ := hB
        rw [eth] at hP1
        subst hw
        obtain ⟨hP, hD⟩ := va_join (wr := [(ht, .inr (4, [.ref ht_text, .ref ht_bench, .ref ht_acts, .ref ht_drawers, .ref ht_told, .ref ht_pagesOfTrial, .ref ht_kept, .int vt_spoken, .long vt_nowSeed]))]) (w1 := [(ht_text, .inr (2, [.ref ht_text_letters, .int x4.1])), (ht_text_letters, .inl (cI, 32, .inl x4.2))]) hP hD [1, 2] [0] rfl rfl (by decide) (by decide) hk1 hFc hP1 hD1
        clear hP1 hK1 hD1 hPc hDc hFc hk1 hz1 hvm eth
        generalize H1 = H at hP hS ⊢
        have hP : va_P (dC, dI) vwCl [(ht, .inr (4, [.ref ht_text, .ref ht_bench, .ref ht_acts, .ref ht_drawers, .ref ht_told, .ref ht_pagesOfTrial, .ref ht_kept, .int vt_spoken, .long vt_nowSeed])), (ht_text, .inr (2, [.ref ht_text_letters, .int x4.1])), (ht_text_letters, .inl (cI, 32, .inl x4.2))] H := hP
        have hD : va_D A [(ht, .inr (4, [.ref ht_text, .ref ht_bench, .ref ht_acts, .ref ht_drawers, .ref ht_told, .ref ht_pagesOfTrial, .ref ht_kept, .int vt_spoken, .long vt_nowSeed])), (ht_text, .inr (2, [.ref ht_text_letters, .int x4.1])), (ht_text_letters, .inl (cI, 32, .inl x4.2))] := hD
        refine lv_aload_n hx hb dX5_write_37 rfl (lv_at hl 0 rfl) ?_
        refine va_get (D := (dC, dI)) (ci := 4) (v := .ref ht_text) (C := RX5) (T := TX5) (N := 9) hx hb hts hinX5 hown hK hP 0 rfl rfl 0 (by decide) hw0 (fun _ h9 => h9) rfl dX5_write_38 ?_
        refine va_get (D := (dC, dI)) (ci := 2) (v := .int x4.1) (C := RX2) (T := TX2) (N := 2) hx hb hts hinX2 hown hK hP 1 rfl rfl 1 (by decide) hw1 (fun _ h9 => h9) rfl dX5_write_41 ?_
        have he := Option.some.inj hf
        have hP9 := hP
        have hD9 := hD
        exact W.iret (v := x4.1) hx hb hr (fun t eth hW => ⟨⟨x4.1, (x4.1, x4.2), rfl, ⟨(congrArg Prod.fst he).symm, (congrArg Prod.snd he).symm⟩, by rw [eth]; exact hP9, va_K.moved hW.alike hK, hD9⟩, hS.F eth⟩) hS.2.2 dX5_write_44
      · replace hf := dg_f c3 hf
        refine lv_bipush (v := -4) hx hb dX5_write_26 (by decide) ?_
        have he := Option.some.inj hf
        have hP9 := hP
        have hD9 := hD
        exact W.iret (v := (-4:Int32)) hx hb hr (fun t eth hW => ⟨⟨(-4:Int32), (vt_text_size, vt_text_letters), rfl, ⟨(congrArg Prod.fst he).symm, (congrArg Prod.snd he).symm⟩, by rw [eth]; exact hP9, va_K.moved hW.alike hK, hD9⟩, hS.F eth⟩) hS.2.2 dX5_write_28
    · replace hf := dg_f c2 hf
      refine lv_bipush (v := -2) hx hb dX5_write_11 (by decide) ?_
      have he := Option.some.inj hf
      have hP9 := hP
      have hD9 := hD
      exact W.iret (v := (-2:Int32)) hx hb hr (fun t eth hW => ⟨⟨(-2:Int32), (vt_text_size, vt_text_letters), rfl, ⟨(congrArg Prod.fst he).symm, (congrArg Prod.snd he).symm⟩, by rw [eth]; exact hP9, va_K.moved hW.alike hK, hD9⟩, hS.F eth⟩) hS.2.2 dX5_write_13
theorem hd_X5_wipe : yX5_wipe.cls = RX5 ∧ yX5_wipe.cls ≠ "java/lang/invoke/MethodHandle" ∧ yX5_wipe.cls ≠ "java/lang/invoke/VarHandle" ∧ (parseMethodDescriptor yX5_wipe.desc).map (fun d => d.parameters.length) = some 0 := by decide +kernel
abbrev rm_X5_wipe : Room := { frames := 0, cells := 0, slots := 0, locals := 0 }
abbrev q_X5_wipe (dC : Nat → ClassId) (dI : Nat → Nat → Nat) (cI cJ cZ : ClassId) (ht ht_text ht_bench ht_acts ht_drawers ht_told ht_pagesOfTrial ht_kept ht_text_letters : Nat) (vt_spoken : Int32) (vt_nowSeed : Int64) (R : Int32 × Int32) (A : Nat → Prop) : Array Value → State → Outcome → State → Prop := va_Qi (fun (r : Int32) (u : Int32) => R.1 = r ∧ R.2 = u) (fun (u : Int32) (t : State) => va_P (dC, dI) vwCl [(ht, .inr (4, [.ref ht_text, .ref ht_bench, .ref ht_acts, .ref ht_drawers, .ref ht_told, .ref ht_pagesOfTrial, .ref ht_kept, .int vt_spoken, .long vt_nowSeed])), (ht_text, .inr (2, [.ref ht_text_letters, .int u]))] t.heap ∧ va_K (dC, dI) vwCl [(cI, .int), (cJ, .long), (cZ, .boolean)] t ∧ va_D A [(ht, .inr (4, [.ref ht_text, .ref ht_bench, .ref ht_acts, .ref ht_drawers, .ref ht_told, .ref ht_pagesOfTrial, .ref ht_kept, .int vt_spoken, .long vt_nowSeed])), (ht_text, .inr (2, [.ref ht_text_letters, .int u]))]) A
set_option maxHeartbeats 4000000 in
set_option maxRecDepth 100000 in
theorem k_X5_wipe (l : Launch) (dC : Nat → ClassId) (dI : Nat → Nat → Nat) (cI cJ cZ : ClassId) (sz : Nat) (ht ht_text ht_bench ht_acts ht_drawers ht_told ht_pagesOfTrial ht_kept ht_text_letters : Nat) (vt_spoken : Int32) (vt_nowSeed : Int64) (vt_text_size : Int32) (N : Nat) (R : Int32 × Int32) (hf : f_X5_wipe N vt_text_size = some R) : Met l yX5_wipe wsX5_wipe (rm_X5_wipe) (va_Pc [.ref ht] (fun U => U.heap.size = sz ∧ va_P (dC, dI) vwCl [(ht, .inr (4, [.ref ht_text, .ref ht_bench, .ref ht_acts, .ref ht_drawers, .ref ht_told, .ref ht_pagesOfTrial, .ref ht_kept, .int vt_spoken, .long vt_nowSeed])), (ht_text, .inr (2, [.ref ht_text_letters, .int vt_text_size]))] U.heap ∧ va_K (dC, dI) vwCl [(cI, .int), (cJ, .long), (cZ, .boolean)] U ∧ va_D (fun _ => True) [(ht, .inr (4, [.ref ht_text, .ref ht_bench, .ref ht_acts, .ref ht_drawers, .ref ht_told, .ref ht_pagesOfTrial, .ref ht_kept, .int vt_spoken, .long vt_nowSeed])), (ht_text, .inr (2, [.ref ht_text_letters, .int vt_text_size]))])) (q_X5_wipe dC dI cI cJ cZ ht ht_text ht_bench ht_acts ht_drawers ht_told ht_pagesOfTrial ht_kept ht_text_letters vt_spoken vt_nowSeed R (va_A [(ht, .inr (4, [.ref ht_text, .ref ht_bench, .ref ht_acts, .ref ht_drawers, .ref ht_told, .ref ht_pagesOfTrial, .ref ht_kept, .int vt_spoken, .long vt_nowSeed])), (ht_text, .inr (2, [.ref ht_text_letters, .int vt_text_size]))] sz)) 0 0 (va_A [(ht, .inr (4, [.ref ht_text, .ref ht_bench, .ref ht_acts, .ref ht_drawers, .ref ht_told, .ref ht_pagesOfTrial, .ref ht_kept, .int vt_spoken, .long vt_nowSeed])), (ht_text, .inr (2, [.ref ht_text_letters, .int vt_text_size]))] sz) := by
  refine Met.ofW (cc := cX5_wipe) (maxL := 2) (ret := (some .int)) (by decide) rfl ?_
  intro p e s m args below meth c s₁ B hml hv
  obtain ⟨rfl, hsz, hP, hK, hD0⟩ := hv
  have hx := B.exec
  have hb := B.bytes
  have hr := B.returns
  have hts := atoms_spec (ws := wsX5_wipe) B.pre
  have hown : s.vm.findClass RX5 = some m.cls := findClass_of_methodNamed B.named
  have hlocks := B.notSynchronized
  clear B
  subst hsz
  have hw0 := hts (.fieldLink RX5 12 "ShorthandCourt" "text" "LShorthandCourt$CourtText;") (by decide +kernel)
  have hw1 := hts (.fieldLink RX5 58 "ShorthandCourt$CourtText" "size" "I") (by decide +kernel)
  have hinX2 : ∀ w ∈ u_ws RX2 TX2 2, w ∈ wsX5_wipe := by decide +kernel
  have hinX5 : ∀ w ∈ u_ws RX5 TX5 9, w ∈ wsX5_wipe := by decide +kernel
  have hD := hD0.self (sz := s.heap.size)
  clear hD0
  generalize hAe : va_A [(ht, .inr (4, [.ref ht_text, .ref ht_bench, .ref ht_acts, .ref ht_drawers, .ref ht_told, .ref ht_pagesOfTrial, .ref ht_kept, .int vt_spoken, .long vt_nowSeed])), (ht_text, .inr (2, [.ref ht_text_letters, .int vt_text_size]))] s.heap.size = A at hD ⊢
  have hA : ∀ q : Nat, s.heap.size ≤ q → A q := fun q h => by rw [← hAe]; exact Or.inr h
  clear hAe
  have hS : va_S A s.heap s.heap [] := va_S.rf
  have hl := lv_entry ([.ref ht]) (n := 2) (Nat.le_of_ble_eq_true rfl)
  rw [lg_entry_eq]
  generalize (lg_sl ([.ref ht]) ++ List.replicate (2 - (lg_sl ([.ref ht])).length) Slot.unset).toArray = ls at hl ⊢
  have hl : lv_has ls 2 [(0, .ref ht)] := hl
  unfold f_X5_wipe at hf
  refine lv_aload_n hx hb dX5_wipe_0 rfl (lv_at hl 0 rfl) ?_
  refine va_get (D := (dC, dI)) (ci := 4) (v := .ref ht_text) (C := RX5) (T := TX5) (N := 9) hx hb hts hinX5 hown hK hP 0 rfl rfl 0 (by decide) hw0 (fun _ h9 => h9) rfl dX5_wipe_1 ?_
  refine va_get (D := (dC, dI)) (ci := 2) (v := .int vt_text_size) (C := RX2) (T := TX2) (N := 2) hx hb hts hinX2 hown hK hP 1 rfl rfl 1 (by decide) hw1 (fun _ h9 => h9) rfl dX5_wipe_4 ?_
  refine lv_istore_n (lv' := [(1, .int vt_text_size), (0, .ref ht)]) hx hb dX5_wipe_7 rfl hl (by decide) rfl (fun ls hl => ?_)
  refine lv_aload_n hx hb dX5_wipe_8 rfl (lv_at hl 1 rfl) ?_
  refine va_get (D := (dC, dI)) (ci := 4) (v := .ref ht_text) (C := RX5) (T := TX5) (N := 9) hx hb hts hinX5 hown hK hP 0 rfl rfl 0 (by decide) hw0 (fun _ h9 => h9) rfl dX5_wipe_9 ?_
  refine lv_iconst (v := 0) hx hb dX5_wipe_12 (by decide) ?_
  refine va_put (D := (dC, dI)) (ci := 2) (v := .int (0:Int32)) (ty := .int) (C := RX2) (T := TX2) (N := 2) hx hb hts hinX2 tyX2 tyX2_ok nmX2 hown hK hP hD hS 1 rfl rfl 1 (by decide) hw1 (fun _ h9 => h9) rfl (by decide +kernel) rfl rfl (Nat.le_of_ble_eq_true rfl) dX5_wipe_13 (fun H locs hP hD hS => ?_)
  have hP : va_P (dC, dI) vwCl [(ht, .inr (4, [.ref ht_text, .ref ht_bench, .ref ht_acts, .ref ht_drawers, .ref ht_told, .ref ht_pagesOfTrial, .ref ht_kept, .int vt_spoken, .long vt_nowSeed])), (ht_text, .inr (2, [.ref ht_text_letters, .int (0:Int32)]))] H := hP
  have hD : va_D A [(ht, .inr (4, [.ref ht_text, .ref ht_bench, .ref ht_acts, .ref ht_drawers, .ref ht_told, .ref ht_pagesOfTrial, .ref ht_kept, .int vt_spoken, .long vt_nowSeed])), (ht_text, .inr (2, [.ref ht_text_letters, .int (0:Int32)]))] := hD
  refine lv_iload_n hx hb dX5_wipe_16 rfl (lv_at hl 0 rfl) ?_
  have he := Option.some.inj hf
  have hP9 := hP
  have hD9 := hD
  exact W.iret (v := vt_text_size) hx hb hr (fun t eth hW => ⟨⟨vt_text_size, (0:Int32), rfl, ⟨(congrArg Prod.fst he).symm, (congrArg Prod.snd he).symm⟩, by rw [eth]; exact hP9, va_K.moved hW.alike hK, hD9⟩, hS.F eth⟩) hS.2.2 dX5_wipe_17
theorem hd_X5_fault : yX5_fault.cls = RX5 ∧ yX5_fault.cls ≠ "java/lang/invoke/MethodHandle" ∧ yX5_fault.cls ≠ "java/lang/invoke/VarHandle" ∧ (parseMethodDescriptor yX5_fault.desc).map (fun d => d.parameters.length) = some 0 := by decide +kernel
abbrev rm_X5_fault : Room := { frames := 4, cells := 0, slots := 0, locals := 85 }
abbrev q_X5_fault (dC : Nat → ClassId) (dI : Nat → Nat → Nat) (cI cJ cZ : ClassId) (ht ht_text ht_bench ht_acts ht_drawers ht_told ht_pagesOfTrial ht_kept ht_text_letters : Nat) (vt_spoken : Int32) (vt_nowSeed : Int64) (vt_text_size : Int32) (vt_text_letters : Nat → Int32) (R : Int32) (A : Nat → Prop) : Array Value → State → Outcome → State → Prop := va_Qi (fun (r : Int32) (_ : Unit) => R = r) (fun (u : Unit) (t : State) => va_P (dC, dI) vwCl [(ht, .inr (4, [.ref ht_text, .ref ht_bench, .ref ht_acts, .ref ht_drawers, .ref ht_told, .ref ht_pagesOfTrial, .ref ht_kept, .int vt_spoken, .long vt_nowSeed])), (ht_text, .inr (2, [.ref ht_text_letters, .int vt_text_size])), (ht_text_letters, .inl (cI, 32, .inl vt_text_letters))] t.heap ∧ va_K (dC, dI) vwCl [(cI, .int), (cJ, .long), (cZ, .boolean)] t ∧ va_D A [(ht, .inr (4, [.ref ht_text, .ref ht_bench, .ref ht_acts, .ref ht_drawers, .ref ht_told, .ref ht_pagesOfTrial, .ref ht_kept, .int vt_spoken, .long vt_nowSeed])), (ht_text, .inr (2, [.ref ht_text_letters, .int vt_text_size])), (ht_text_letters, .inl (cI, 32, .inl vt_text_letters))]) A
set_option maxHeartbeats 4000000 in
set_option maxRecDepth 100000 in
theorem k_X5_fault (l : Launch) (dC : Nat → ClassId) (dI : Nat → Nat → Nat) (cI cJ cZ : ClassId) (sz : Nat) (ht ht_text ht_bench ht_acts ht_drawers ht_told ht_pagesOfTrial ht_kept ht_text_letters : Nat) (vt_spoken : Int32) (vt_nowSeed : Int64) (vt_text_size : Int32) (vt_text_letters : Nat → Int32) (N : Nat) (R : Int32) (hf : f_X5_fault N vt_text_size vt_text_letters = some R) : Met l yX5_fault wsX5_fault (rm_X5_fault) (va_Pc [.ref ht] (fun U => U.heap.size = sz ∧ va_P (dC, dI) vwCl [(ht, .inr (4, [.ref ht_text, .ref ht_bench, .ref ht_acts, .ref ht_drawers, .ref ht_told, .ref ht_pagesOfTrial, .ref ht_kept, .int vt_spoken, .long vt_nowSeed])), (ht_text, .inr (2, [.ref ht_text_letters, .int vt_text_size])), (ht_text_letters, .inl (cI, 32, .inl vt_text_letters))] U.heap ∧ va_K (dC, dI) vwCl [(cI, .int), (cJ, .long), (cZ, .boolean)] U ∧ va_D (fun _ => True) [(ht, .inr (4, [.ref ht_text, .ref ht_bench, .ref ht_acts, .ref ht_drawers, .ref ht_told, .ref ht_pagesOfTrial, .ref ht_kept, .int vt_spoken, .long vt_nowSeed])), (ht_text, .inr (2, [.ref ht_text_letters, .int vt_text_size])), (ht_text_letters, .inl (cI, 32, .inl vt_text_letters))])) (q_X5_fault dC dI cI cJ cZ ht ht_text ht_bench ht_acts ht_drawers ht_told ht_pagesOfTrial ht_kept ht_text_letters vt_spoken vt_nowSeed vt_text_size vt_text_letters R (va_A [(ht, .inr (4, [.ref ht_text, .ref ht_bench, .ref ht_acts, .ref ht_drawers, .ref ht_told, .ref ht_pagesOfTrial, .ref ht_kept, .int vt_spoken, .long vt_nowSeed])), (ht_text, .inr (2, [.ref ht_text_letters, .int vt_text_size])), (ht_text_letters, .inl (cI, 32, .inl vt_text_letters))] sz)) 0 0 (va_A [(ht, .inr (4, [.ref ht_text, .ref ht_bench, .ref ht_acts, .ref ht_drawers, .ref ht_told, .ref ht_pagesOfTrial, .ref ht_kept, .int vt_spoken, .long vt_nowSeed])), (ht_text, .inr (2, [.ref ht_text_letters, .int vt_text_size])), (ht_text_letters, .inl (cI, 32, .inl vt_text_letters))] sz) := by
  refine Met.ofW (cc := cX5_fault) (maxL := 1) (ret := (some .int)) (by decide) rfl ?_
  intro p e s m args below meth c s₁ B hml hv
  obtain ⟨rfl, hsz, hP, hK, hD0⟩ := hv
  have hx := B.exec
  have hb := B.bytes
  have hr := B.returns
  have hts := atoms_spec (ws := wsX5_fault) B.pre
  have hown : s.vm.findClass RX5 = some m.cls := findClass_of_methodNamed B.named
  have hlocks := B.notSynchronized
  clear B
  subst hsz
  have hw0 := hts (.fieldLink RX5 12 "ShorthandCourt" "text" "LShorthandCourt$CourtText;") (by decide +kernel)
  have hinX5 : ∀ w ∈ u_ws RX5 TX5 9, w ∈ wsX5_fault := by decide +kernel
  have hD := hD0.self (sz := s.heap.size)
  clear hD0
  generalize hAe : va_A [(ht, .inr (4, [.ref ht_text, .ref ht_bench, .ref ht_acts, .ref ht_drawers, .ref ht_told, .ref ht_pagesOfTrial, .ref ht_kept, .int vt_spoken, .long vt_nowSeed])), (ht_text, .inr (2, [.ref ht_text_letters, .int vt_text_size])), (ht_text_letters, .inl (cI, 32, .inl vt_text_letters))] s.heap.size = A at hD ⊢
  have hA : ∀ q : Nat, s.heap.size ≤ q → A q := fun q h => by rw [← hAe]; exact Or.inr h
  clear hAe
  have hS : va_S A s.heap s.heap [] := va_S.rf
  have hl := lv_entry ([.ref ht]) (n := 1) (Nat.le_of_ble_eq_true rfl)
  rw [lg_entry_eq]
  generalize (lg_sl ([.ref ht]) ++ List.replicate (1 - (lg_sl ([.ref ht])).length) Slot.unset).toArray = ls at hl ⊢
  have hl : lv_has ls 1 [(0, .ref ht)] := hl
  unfold f_X5_fault at hf
  refine lv_aload_n hx hb dX5_fault_0 rfl (lv_at hl 0 rfl) ?_
  refine va_get (D := (dC, dI)) (ci := 4) (v := .ref ht_text) (C := RX5) (T := TX5) (N := 9) hx hb hts hinX5 hown hK hP 0 rfl rfl 0 (by decide) hw0 (fun _ h9 => h9) rfl dX5_fault_1 ?_
  obtain ⟨x1, hx1, hf⟩ := dg_bind hf
  have hPc : va_P (dC, dI) vwCl [(ht_text, .inr (2, [.ref ht_text_letters, .int vt_text_size])), (ht_text_letters, .inl (cI, 32, .inl vt_text_letters))] s.heap := hP.sub [1, 2] rfl
  have hDc : va_D A [(ht_text, .inr (2, [.ref ht_text_letters, .int vt_text_size])), (ht_text_letters, .inl (cI, 32, .inl vt_text_letters))] := hD.sub [1, 2] (by decide) rfl
  have hFc := va_free (wc := [(ht_text, .inr (2, [.ref ht_text_letters, .int vt_text_size])), (ht_text_letters, .inl (cI, 32, .inl vt_text_letters))]) hD hS hA [1, 2] rfl
  refine va_calli (va_runV (As := []) (rest := []) ⟨hx, hb, hml, hown, hts⟩ (k_X2_firstFault l dC dI cI cJ cZ s.heap.size ht_text ht_text_letters vt_text_size vt_text_letters N x1 hx1) (cwV 0 hts gX5_fault_X2_firstFault rfl rfl rfl hd_X2_firstFault ⟨Nat.le_of_ble_eq_true rfl, Nat.le_of_ble_eq_true rfl⟩) ⟨blind_pc, va_recv hK hPc (ci := 2) (q0 := 0) rfl rfl, pre_pc hPc hK hDc⟩ rfl rfl hl.1 rfl (lv_room (Nat.le_of_ble_eq_true rfl)) dX5_fault_4 ⟨Nat.zero_le _, Nat.zero_le _⟩) hS (fun q _ h => hFc q h) hFc (fun r u t H1 locs eth hvm hw hB hz1 hk1 hS => ?_)
  obtain ⟨hP1, hK1, hD1⟩ := hB
  rw [eth] at hP1
  subst hw
  obtain ⟨hP, hD⟩ := va_join (wr := [(ht, .inr (4, [.ref ht_text, .ref ht_bench, .ref ht_acts, .ref ht_drawers, .ref ht_told, .ref ht_pagesOfTrial, .ref ht_kept, .int vt_spoken, .long vt_nowSeed]))]) (w1 := [(ht_text, .inr (2, [.ref ht_text_letters, .int vt_text_size])), (ht_text_letters, .inl (cI, 32, .inl vt_text_letters))]) hP hD [1, 2] [0] rfl rfl (by decide) (by decide) hk1 hFc hP1 hD1
  clear hP1 hK1 hD1 hPc hDc hFc hk1 hz1 hvm eth
  generalize H1 = H at hP hS ⊢
  have hP : va_P (dC, dI) vwCl [(ht, .inr (4, [.ref ht_text, .ref ht_bench, .ref ht_acts, .ref ht_drawers, .ref ht_told, .ref ht_pagesOfTrial, .ref ht_kept, .int vt_spoken, .long vt_nowSeed])), (ht_text, .inr (2, [.ref ht_text_letters, .int vt_text_size])), (ht_text_letters, .inl (cI, 32, .inl vt_text_letters))] H := hP
  have hD : va_D A [(ht, .inr (4, [.ref ht_text, .ref ht_bench, .ref ht_acts, .ref ht_drawers, .ref ht_told, .ref ht_pagesOfTrial, .ref ht_kept, .int vt_spoken, .long vt_nowSeed])), (ht_text, .inr (2, [.ref ht_text_letters, .int vt_text_size])), (ht_text_letters, .inl (cI, 32, .inl vt_text_letters))] := hD
  have he := Option.some.inj hf
  have hP9 := hP
  have hD9 := hD
  exact W.iret (v := x1) hx hb hr (fun t eth hW => ⟨⟨x1, (), rfl, he.symm, by rw [eth]; exact hP9, va_K.moved hW.alike hK, hD9⟩, hS.F eth⟩) hS.2.2 dX5_fault_7
theorem hd_J7_fill_53178 : yJ7_fill_53178.cls ≠ "java/lang/invoke/MethodHandle" ∧ yJ7_fill_53178.cls ≠ "java/lang/invoke/VarHandle" ∧ (parseMethodDescriptor yJ7_fill_53178.desc).map (fun d => d.parameters.length) = some 2 := by decide +kernel
abbrev rm_J7_fill_53178 : Room := { frames := 0, cells := 0, slots := 0, locals := 0 }
abbrev q_J7_fill_53178 (dC : Nat → ClassId) (dI : Nat → Nat → Nat) (cI cJ cZ : ClassId) (hp0 : Nat) (n_p0 : Nat) (R : (Nat → Int32)) (A : Nat → Prop) : Array Value → State → Outcome → State → Prop := va_Qv (fun (u : (Nat → Int32)) => R = u) (fun (u : (Nat → Int32)) (t : State) => va_P (dC, dI) vwCl [(hp0, .inl (cI, n_p0, .inl u))] t.heap ∧ va_K (dC, dI) vwCl [(cI, .int), (cJ, .long), (cZ, .boolean)] t ∧ va_D A [(hp0, .inl (cI, n_p0, .inl u))]) A
set_option maxHeartbeats 4000000 in
set_option maxRecDepth 100000 in
theorem k_J7_fill_53178 (l : Launch) (dC : Nat → ClassId) (dI : Nat → Nat → Nat) (cI cJ cZ : ClassId) (sz : Nat) (hp0 : Nat) (n_p0 : Nat) (a1 : Int32) (vp0 : Nat → Int32) (N : Nat) (R : (Nat → Int32)) (hf : f_J7_fill_53178 N a1 n_p0 vp0 = some R) : Met l yJ7_fill_53178 wsJ7_fill_53178 (rm_J7_fill_53178) (va_Pc [.ref hp0, .int a1] (fun U => U.heap.size = sz ∧ va_P (dC, dI) vwCl [(hp0, .inl (cI, n_p0, .inl vp0))] U.heap ∧ va_K (dC, dI) vwCl [(cI, .int), (cJ, .long), (cZ, .boolean)] U ∧ va_D (fun _ => True) [(hp0, .inl (cI, n_p0, .inl vp0))])) (q_J7_fill_53178 dC dI cI cJ cZ hp0 n_p0 R (va_A [(hp0, .inl (cI, n_p0, .inl vp0))] sz)) 0 0 (va_A [(hp0, .inl (cI, n_p0, .inl vp0))] sz) := by
  refine Met.ofW (cc := cJ7_fill_53178) (maxL := 4) (ret := none) (by decide) rfl ?_
  intro p e s m args below meth c s₁ B hml hv
  obtain ⟨rfl, hsz, hP, hK, hD0⟩ := hv
  have hx := B.exec
  have hb := B.bytes
  have hr := B.returns
  have hts := atoms_spec (ws := wsJ7_fill_53178) B.pre
  have hown : s.vm.findClass RJ7 = some m.cls := findClass_of_methodNamed B.named
  have hlocks := B.notSynchronized
  clear B
  subst hsz
  have hD := hD0.self (sz := s.heap.size)
  clear hD0
  generalize hAe : va_A [(hp0, .inl (cI, n_p0, .inl vp0))] s.heap.size = A at hD ⊢
  have hA : ∀ q : Nat, s.heap.size ≤ q → A q := fun q h => by rw [← hAe]; exact Or.inr h
  clear hAe
  have hS : va_S A s.heap s.heap [] := va_S.rf
  have hl := lv_entry ([.ref hp0, .int a1]) (n := 4) (Nat.le_of_ble_eq_true rfl)
  rw [lg_entry_eq]
  generalize (lg_sl ([.ref hp0, .int a1]) ++ List.replicate (4 - (lg_sl ([.ref hp0, .int a1])).length) Slot.unset).toArray = ls at hl ⊢
  have hl : lv_has ls 4 [(0, .ref hp0), (1, .int a1)] := hl
  unfold f_J7_fill_53178 at hf
  refine lv_iconst (v := 0) hx hb dJ7_fill_53178_0 (by decide) ?_
  refine lv_istore_n (lv' := [(2, .int (0:Int32)), (0, .ref hp0), (1, .int a1)]) hx hb dJ7_fill_53178_1 rfl hl (by decide) rfl (fun ls hl => ?_)
  refine lv_aload_n hx hb dJ7_fill_53178_2 rfl (lv_at hl 1 rfl) ?_
  refine va_alen (v := (Int32.ofNat n_p0)) hx hb hK hP 0 0 rfl rfl rfl dJ7_fill_53178_3 ?_
  refine lv_istore_n (lv' := [(3, .int (Int32.ofNat n_p0)), (2, .int (0:Int32)), (0, .ref hp0), (1, .int a1)]) hx hb dJ7_fill_53178_4 rfl hl (by decide) rfl (fun ls hl => ?_)
  have ex5 : ∀ (z2_5 : Int32) (zvp0_5 : (Nat → Int32)) (H : Heap) (locs : List Loc) (ls : Array Slot), va_P (dC, dI) vwCl [(hp0, .inl (cI, n_p0, .inl zvp0_5))] H → va_D A [(hp0, .inl (cI, n_p0, .inl zvp0_5))] → va_S A s.heap H locs → lv_has ls 4 [(3, .int (Int32.ofNat n_p0)), (2, .int z2_5), (0, .ref hp0), (1, .int a1)] → (some zvp0_5) = some R → W p l e (rm_J7_fill_53178) s m ([.ref hp0, .int a1] : List Value).toArray below meth c H locs 0 0 (MQ below (q_J7_fill_53178 dC dI cI cJ cZ hp0 n_p0 R A) ([.ref hp0, .int a1] : List Value).toArray s 0 0 A) (F0 m 20 ls []) := by
    intro z2_5 zvp0_5 H locs ls hP hD hS hl hf
    have he := Option.some.inj hf
    have hP9 := hP
    have hD9 := hD
    exact W.vret hx hb hr (fun t eth hW => ⟨⟨zvp0_5, rfl, he.symm, by rw [eth]; exact hP9, va_K.moved hW.alike hK, hD9⟩, hS.F eth⟩) hS.2.2 dJ7_fill_53178_20
  have lp5 : ∀ (n5 : Nat) (y2_5 : Int32) (yvp0_5 : (Nat → Int32)) (H : Heap) (locs : List Loc) (ls : Array Slot), va_P (dC, dI) vwCl [(hp0, .inl (cI, n_p0, .inl yvp0_5))] H → va_D A [(hp0, .inl (cI, n_p0, .inl yvp0_5))] → va_S A s.heap H locs → lv_has ls 4 [(3, .int (Int32.ofNat n_p0)), (2, .int y2_5), (0, .ref hp0), (1, .int a1)] → f_J7_fill_53178_5 N a1 n_p0 (fun z2_5 zvp0_5 => some zvp0_5) n5 y2_5 yvp0_5 = some R → W p l e (rm_J7_fill_53178) s m ([.ref hp0, .int a1] : List Value).toArray below meth c H locs 0 0 (MQ below (q_J7_fill_53178 dC dI cI cJ cZ hp0 n_p0 R A) ([.ref hp0, .int a1] : List Value).toArray s 0 0 A) (F0 m 5 ls []) := by
    intro n5
    induction n5 with
    | zero => intro y2_5 yvp0_5 H locs ls hP hD hS hl hf; rw [f_J7_fill_53178_5] at hf; cases hf
    | succ n5 ih5 =>
      intro y2_5 yvp0_5 H locs ls hP hD hS hl hf
      rw [f_J7_fill_53178_5] at hf
      refine lv_iload_n hx hb dJ7_fill_53178_5 rfl (lv_at hl 1 rfl) ?_
      refine lv_iload_n hx hb dJ7_fill_53178_6 rfl (lv_at hl 0 rfl) ?_
      refine lv_icmp_ge (tgt := 20) hx hb dJ7_fill_53178_7 (by decide) (fun c1 => ?_) (fun c1 => ?_)
      · replace hf := dg_t c1 hf
        exact ex5 y2_5 yvp0_5 _ _ _ hP hD hS (lv_sub hl [0, 1, 2, 3] rfl) hf
      · replace hf := dg_f c1 hf
        refine lv_aload_n hx hb dJ7_fill_53178_10 rfl (lv_at hl 2 rfl) ?_
        refine lv_iload_n hx hb dJ7_fill_53178_11 rfl (lv_at hl 1 rfl) ?_
        refine lv_iload_n hx hb dJ7_fill_53178_12 rfl (lv_at hl 3 rfl) ?_
        obtain ⟨hi2, hf⟩ := dg_ix hf
        refine va_iast hx hb hK hP hD hS 0 0 rfl rfl hi2 dJ7_fill_53178_13 (fun H locs hP hD hS => ?_)
        have hP : va_P (dC, dI) vwCl [(hp0, .inl (cI, n_p0, .inl (upd yvp0_5 y2_5.toNatClampNeg a1)))] H := hP
        have hD : va_D A [(hp0, .inl (cI, n_p0, .inl (upd yvp0_5 y2_5.toNatClampNeg a1)))] := hD
        refine lv_iinc (v := (y2_5 + (1:Int32))) (lv' := [(2, .int (y2_5 + (1:Int32))), (3, .int (Int32.ofNat n_p0)), (0, .ref hp0), (1, .int a1)]) hx hb dJ7_fill_53178_14 hl (k := 1) rfl (by first | rfl | decide) (by decide) rfl (fun ls hl => ?_)
        refine lv_goto (tgt := 5) hx hb dJ7_fill_53178_17 (by decide) ?_
        exact ih5 (y2_5 + (1:Int32)) (upd yvp0_5 y2_5.toNatClampNeg a1) _ _ _ hP hD hS (lv_sub hl [1, 0, 2, 3] rfl) hf
  exact lp5 N (0:Int32) vp0 _ _ _ hP hD hS hl hf
