theorem hd_X5_tellsTrial : yX5_tellsTrial.cls = RX5 ∧ yX5_tellsTrial.cls ≠ "java/lang/invoke/MethodHandle" ∧ yX5_tellsTrial.cls ≠ "java/lang/invoke/VarHandle" ∧ (parseMethodDescriptor yX5_tellsTrial.desc).map (fun d => d.parameters.length) = some 2 := by decide +kernel
abbrev rm_X5_tellsTrial : Room := { frames := 1, cells := 0, slots := 0, locals := 20 }
abbrev q_X5_tellsTrial (dC : Nat → ClassId) (dI : Nat → Nat → Nat) (cI cJ cZ : ClassId) (ht ht_text ht_bench ht_acts ht_drawers ht_told ht_pagesOfTrial ht_kept ht_bench_drops ht_bench_from ht_bench_to ht_bench_tires ht_bench_copies ht_bench_pages : Nat) (vt_spoken : Int32) (vt_nowSeed : Int64) (vt_bench_size : Int32) (R : Int32) (A : Nat → Prop) : Array Value → State → Outcome → State → Prop := va_Qi (fun (r : Int32) (_ : Unit) => R = r) (fun (u : Unit) (t : State) => va_P (dC, dI) vwCl [(ht, .inr (4, [.ref ht_text, .ref ht_bench, .ref ht_acts, .ref ht_drawers, .ref ht_told, .ref ht_pagesOfTrial, .ref ht_kept, .int vt_spoken, .long vt_nowSeed])), (ht_bench, .inr (1, [.ref ht_bench_drops, .ref ht_bench_from, .ref ht_bench_to, .ref ht_bench_tires, .ref ht_bench_copies, .ref ht_bench_pages, .int vt_bench_size]))] t.heap ∧ va_K (dC, dI) vwCl [(cI, .int), (cJ, .long), (cZ, .boolean)] t ∧ va_D A [(ht, .inr (4, [.ref ht_text, .ref ht_bench, .ref ht_acts, .ref ht_drawers, .ref ht_told, .ref ht_pagesOfTrial, .ref ht_kept, .int vt_spoken, .long vt_nowSeed])), (ht_bench, .inr (1, [.ref ht_bench_drops, .ref ht_bench_from, .ref ht_bench_to, .ref ht_bench_tires, .ref ht_bench_copies, .ref ht_bench_pages, .int vt_bench_size]))]) A
set_option maxHeartbeats 4000000 in
set_option maxRecDepth 100000 in
theorem k_X5_tellsTrial (l : Launch) (dC : Nat → ClassId) (dI : Nat → Nat → Nat) (cI cJ cZ : ClassId) (sz : Nat) (ht ht_text ht_bench ht_acts ht_drawers ht_told ht_pagesOfTrial ht_kept ht_bench_drops ht_bench_from ht_bench_to ht_bench_tires ht_bench_copies ht_bench_pages : Nat) (a1 : Int32) (a2 : Int32) (vt_spoken : Int32) (vt_nowSeed : Int64) (vt_bench_size : Int32) (N : Nat) (R : Int32) (hf : f_X5_tellsTrial N a1 a2 vt_bench_size = some R) : Met l yX5_tellsTrial wsX5_tellsTrial (rm_X5_tellsTrial) (va_Pc [.ref ht, .int a1, .int a2] (fun U => U.heap.size = sz ∧ va_P (dC, dI) vwCl [(ht, .inr (4, [.ref ht_text, .ref ht_bench, .ref ht_acts, .ref ht_drawers, .ref ht_told, .ref ht_pagesOfTrial, .ref ht_kept, .int vt_spoken, .long vt_nowSeed])), (ht_bench, .inr (1, [.ref ht_bench_drops, .ref ht_bench_from, .ref ht_bench_to, .ref ht_bench_tires, .ref ht_bench_copies, .ref ht_bench_pages, .int vt_bench_size]))] U.heap ∧ va_K (dC, dI) vwCl [(cI, .int), (cJ, .long), (cZ, .boolean)] U ∧ va_D (fun _ => True) [(ht, .inr (4, [.ref ht_text, .ref ht_bench, .ref ht_acts, .ref ht_drawers, .ref ht_told, .ref ht_pagesOfTrial, .ref ht_kept, .int vt_spoken, .long vt_nowSeed])), (ht_bench, .inr (1, [.ref ht_bench_drops, .ref ht_bench_from, .ref ht_bench_to, .ref ht_bench_tires, .ref ht_bench_copies, .ref ht_bench_pages, .int vt_bench_size]))])) (q_X5_tellsTrial dC dI cI cJ cZ ht ht_text ht_bench ht_acts ht_drawers ht_told ht_pagesOfTrial ht_kept ht_bench_drops ht_bench_from ht_bench_to ht_bench_tires ht_bench_copies ht_bench_pages vt_spoken vt_nowSeed vt_bench_size R (va_A [(ht, .inr (4, [.ref ht_text, .ref ht_bench, .ref ht_acts, .ref ht_drawers, .ref ht_told, .ref ht_pagesOfTrial, .ref ht_kept, .int vt_spoken, .long vt_nowSeed])), (ht_bench, .inr (1, [.ref ht_bench_drops, .ref ht_bench_from, .ref ht_bench_to, .ref ht_bench_tires, .ref ht_bench_copies, .ref ht_bench_pages, .int vt_bench_size]))] sz)) 0 0 (va_A [(ht, .inr (4, [.ref ht_text, .ref ht_bench, .ref ht_acts, .ref ht_drawers, .ref ht_told, .ref ht_pagesOfTrial, .ref ht_kept, .int vt_spoken, .long vt_nowSeed])), (ht_bench, .inr (1, [.ref ht_bench_drops, .ref ht_bench_from, .ref ht_bench_to, .ref ht_bench_tires, .ref ht_bench_copies, .ref ht_bench_pages, .int vt_bench_size]))] sz) := by
  refine Met.ofW (cc := cX5_tellsTrial) (maxL := 5) (ret := (some .boolean)) (by decide) rfl ?_
  intro p e s m args below meth c s₁ B hml hv
  obtain ⟨rfl, hsz, hP, hK, hD0⟩ := hv
  have hx := B.exec
  have hb := B.bytes
  have hr := B.returns
  have hts := atoms_spec (ws := wsX5_tellsTrial) B.pre
  have hown : s.vm.findClass RX5 = some m.cls := findClass_of_methodNamed B.named
  have hlocks := B.notSynchronized
  clear B
  subst hsz
  have hw0 := hts (.fieldLink RX5 19 "ShorthandCourt" "bench" "LShorthandCourt$Bench;") (by decide +kernel)
  have hinX5 : ∀ w ∈ u_ws RX5 TX5 9, w ∈ wsX5_tellsTrial := by decide +kernel
  have hD := hD0.self (sz := s.heap.size)
  clear hD0
  generalize hAe : va_A [(ht, .inr (4, [.ref ht_text, .ref ht_bench, .ref ht_acts, .ref ht_drawers, .ref ht_told, .ref ht_pagesOfTrial, .ref ht_kept, .int vt_spoken, .long vt_nowSeed])), (ht_bench, .inr (1, [.ref ht_bench_drops, .ref ht_bench_from, .ref ht_bench_to, .ref ht_bench_tires, .ref ht_bench_copies, .ref ht_bench_pages, .int vt_bench_size]))] s.heap.size = A at hD ⊢
  have hA : ∀ q : Nat, s.heap.size ≤ q → A q := fun q h => by rw [← hAe]; exact Or.inr h
  clear hAe
  have hS : va_S A s.heap s.heap [] := va_S.rf
  have hl := lv_entry ([.ref ht, .int a1, .int a2]) (n := 5) (Nat.le_of_ble_eq_true rfl)
  rw [lg_entry_eq]
  generalize (lg_sl ([.ref ht, .int a1, .int a2]) ++ List.replicate (5 - (lg_sl ([.ref ht, .int a1, .int a2])).length) Slot.unset).toArray = ls at hl ⊢
  have hl : lv_has ls 5 [(0, .ref ht), (1, .int a1), (2, .int a2)] := hl
  unfold f_X5_tellsTrial at hf
  refine lv_aload_n hx hb dX5_tellsTrial_0 rfl (lv_at hl 0 rfl) ?_
  refine va_get (D := (dC, dI)) (ci := 4) (v := .ref ht_bench) (C := RX5) (T := TX5) (N := 9) hx hb hts hinX5 hown hK hP 0 rfl rfl 1 (by decide) hw0 (fun _ h9 => h9) rfl dX5_tellsTrial_1 ?_
  obtain ⟨x1, hx1, hf⟩ := dg_bind hf
  have hPc : va_P (dC, dI) vwCl [(ht_bench, .inr (1, [.ref ht_bench_drops, .ref ht_bench_from, .ref ht_bench_to, .ref ht_bench_tires, .ref ht_bench_copies, .ref ht_bench_pages, .int vt_bench_size]))] s.heap := hP.sub [1] rfl
  have hDc : va_D A [(ht_bench, .inr (1, [.ref ht_bench_drops, .ref ht_bench_from, .ref ht_bench_to, .ref ht_bench_tires, .ref ht_bench_copies, .ref ht_bench_pages, .int vt_bench_size]))] := hD.sub [1] (by decide) rfl
  have hFc := va_free (wc := [(ht_bench, .inr (1, [.ref ht_bench_drops, .ref ht_bench_from, .ref ht_bench_to, .ref ht_bench_tires, .ref ht_bench_copies, .ref ht_bench_pages, .int vt_bench_size]))]) hD hS hA [1] rfl
  refine va_calli (va_runV (As := []) (rest := []) ⟨hx, hb, hml, hown, hts⟩ (k_X1_everybody l dC dI cI cJ cZ s.heap.size ht_bench ht_bench_drops ht_bench_from ht_bench_to ht_bench_tires ht_bench_copies ht_bench_pages vt_bench_size N x1 hx1) (cwV 0 hts gX5_tellsTrial_X1_everybody rfl rfl rfl hd_X1_everybody ⟨Nat.le_of_ble_eq_true rfl, Nat.le_of_ble_eq_true rfl⟩) ⟨blind_pc, va_recv hK hPc (ci := 1) (q0 := 0) rfl rfl, pre_pc hPc hK hDc⟩ rfl rfl hl.1 rfl (lv_room (Nat.le_of_ble_eq_true rfl)) dX5_tellsTrial_4 ⟨Nat.zero_le _, Nat.zero_le _⟩) hS (fun q _ h => hFc q h) hFc (fun r u t H1 locs eth hvm hw hB hz1 hk1 hS => ?_)
  obtain ⟨hP1, hK1, hD1⟩ := hB
  rw [eth] at hP1
  subst hw
  obtain ⟨hP, hD⟩ := va_join (wr := [(ht, .inr (4, [.ref ht_text, .ref ht_bench, .ref ht_acts, .ref ht_drawers, .ref ht_told, .ref ht_pagesOfTrial, .ref ht_kept, .int vt_spoken, .long vt_nowSeed]))]) (w1 := [(ht_bench, .inr (1, [.ref ht_bench_drops, .ref ht_bench_from, .ref ht_bench_to, .ref ht_bench_tires, .ref ht_bench_copies, .ref ht_bench_pages, .int vt_bench_size]))]) hP hD [1] [0] rfl rfl (by decide) (by decide) hk1 hFc hP1 hD1
  clear hP1 hK1 hD1 hPc hDc hFc hk1 hz1 hvm eth
  generalize H1 = H at hP hS ⊢
  have hP : va_P (dC, dI) vwCl [(ht, .inr (4, [.ref ht_text, .ref ht_bench, .ref ht_acts, .ref ht_drawers, .ref ht_told, .ref ht_pagesOfTrial, .ref ht_kept, .int vt_spoken, .long vt_nowSeed])), (ht_bench, .inr (1, [.ref ht_bench_drops, .ref ht_bench_from, .ref ht_bench_to, .ref ht_bench_tires, .ref ht_bench_copies, .ref ht_bench_pages, .int vt_bench_size]))] H := hP
  have hD : va_D A [(ht, .inr (4, [.ref ht_text, .ref ht_bench, .ref ht_acts, .ref ht_drawers, .ref ht_told, .ref ht_pagesOfTrial, .ref ht_kept, .int vt_spoken, .long vt_nowSeed])), (ht_bench, .inr (1, [.ref ht_bench_drops, .ref ht_bench_from, .ref ht_bench_to, .ref ht_bench_tires, .ref ht_bench_copies, .ref ht_bench_pages, .int vt_bench_size]))] := hD
  refine lv_istore_n (lv' := [(3, .int x1), (0, .ref ht), (1, .int a1), (2, .int a2)]) hx hb dX5_tellsTrial_7 rfl hl (by decide) rfl (fun ls hl => ?_)
  refine lv_iconst (v := 0) hx hb dX5_tellsTrial_8 (by decide) ?_
  refine lv_istore (lv' := [(4, .int (0:Int32)), (3, .int x1), (0, .ref ht), (1, .int a1), (2, .int a2)]) hx hb dX5_tellsTrial_9 hl (by decide) rfl (fun ls hl => ?_)
  have ex11 : ∀ (z4_11 : Int32) (H : Heap) (locs : List Loc) (ls : Array Slot), va_P (dC, dI) vwCl [(ht, .inr (4, [.ref ht_text, .ref ht_bench, .ref ht_acts, .ref ht_drawers, .ref ht_told, .ref ht_pagesOfTrial, .ref ht_kept, .int vt_spoken, .long vt_nowSeed])), (ht_bench, .inr (1, [.ref ht_bench_drops, .ref ht_bench_from, .ref ht_bench_to, .ref ht_bench_tires, .ref ht_bench_copies, .ref ht_bench_pages, .int vt_bench_size]))] H → va_D A [(ht, .inr (4, [.ref ht_text, .ref ht_bench, .ref ht_acts, .ref ht_drawers, .ref ht_told, .ref ht_pagesOfTrial, .ref ht_kept, .int vt_spoken, .long vt_nowSeed])), (ht_bench, .inr (1, [.ref ht_bench_drops, .ref ht_bench_from, .ref ht_bench_to, .ref ht_bench_tires, .ref ht_bench_copies, .ref ht_bench_pages, .int vt_bench_size]))] → va_S A s.heap H locs → lv_has ls 5 [(4, .int z4_11), (3, .int x1), (0, .ref ht), (1, .int a1), (2, .int a2)] → (some (1:Int32)) = some R → W p l e (rm_X5_tellsTrial) s m ([.ref ht, .int a1, .int a2] : List Value).toArray below meth c H locs 0 0 (MQ below (q_X5_tellsTrial dC dI cI cJ cZ ht ht_text ht_bench ht_acts ht_drawers ht_told ht_pagesOfTrial ht_kept ht_bench_drops ht_bench_from ht_bench_to ht_bench_tires ht_bench_copies ht_bench_pages vt_spoken vt_nowSeed vt_bench_size R A) ([.ref ht, .int a1, .int a2] : List Value).toArray s 0 0 A) (F0 m 41 ls []) := by
    intro z4_11 H locs ls hP hD hS hl hf
    refine lv_iconst (v := 1) hx hb dX5_tellsTrial_41 (by decide) ?_
    have he := Option.some.inj hf
    have hP9 := hP
    have hD9 := hD
    exact W.zret (v := (1:Int32)) (ty := .boolean) hx hb hr (by decide) (fun t eth hW => ⟨⟨(1:Int32), (), rfl, he.symm, by rw [eth]; exact hP9, va_K.moved hW.alike hK, hD9⟩, hS.F eth⟩) hS.2.2 dX5_tellsTrial_42
  have lp11 : ∀ (n11 : Nat) (y4_11 : Int32) (H : Heap) (locs : List Loc) (ls : Array Slot), va_P (dC, dI) vwCl [(ht, .inr (4, [.ref ht_text, .ref ht_bench, .ref ht_acts, .ref ht_drawers, .ref ht_told, .ref ht_pagesOfTrial, .ref ht_kept, .int vt_spoken, .long vt_nowSeed])), (ht_bench, .inr (1, [.ref ht_bench_drops, .ref ht_bench_from, .ref ht_bench_to, .ref ht_bench_tires, .ref ht_bench_copies, .ref ht_bench_pages, .int vt_bench_size]))] H → va_D A [(ht, .inr (4, [.ref ht_text, .ref ht_bench, .ref ht_acts, .ref ht_drawers, .ref ht_told, .ref ht_pagesOfTrial, .ref ht_kept, .int vt_spoken, .long vt_nowSeed])), (ht_bench, .inr (1, [.ref ht_bench_drops, .ref ht_bench_from, .ref ht_bench_to, .ref ht_bench_tires, .ref ht_bench_copies, .ref ht_bench_pages, .int vt_bench_size]))] → va_S A s.heap H locs → lv_has ls 5 [(4, .int y4_11), (3, .int x1), (0, .ref ht), (1, .int a1), (2, .int a2)] → f_X5_tellsTrial_11 N a1 a2 x1 (fun z4_11 => some (1:Int32)) n11 y4_11 = some R → W p l e (rm_X5_tellsTrial) s m ([.ref ht, .int a1, .int a2] : List Value).toArray below meth c H locs 0 0 (MQ below (q_X5_tellsTrial dC dI cI cJ cZ ht ht_text ht_bench ht_acts ht_drawers ht_told ht_pagesOfTrial ht_kept ht_bench_drops ht_bench_from ht_bench_to ht_bench_tires ht_bench_copies ht_bench_pages vt_spoken vt_nowSeed vt_bench_size R A) ([.ref ht, .int a1, .int a2] : List Value).toArray s 0 0 A) (F0 m 11 ls []) := by
    intro n11
    induction n11 with
    | zero => intro y4_11 H locs ls hP hD hS hl hf; rw [f_X5_tellsTrial_11] at hf; cases hf
    | succ n11 ih11 =>
      intro y4_11 H locs ls hP hD hS hl hf
      rw [f_X5_tellsTrial_11] at hf
      refine lv_iload hx hb dX5_tellsTrial_11 (lv_at hl 0 rfl) ?_
      refine lv_iload_n hx hb dX5_tellsTrial_13 rfl (lv_at hl 1 rfl) ?_
      refine lv_icmp_gt (tgt := 41) hx hb dX5_tellsTrial_14 (by decide) (fun c2 => ?_) (fun c2 => ?_)
      · replace hf := dg_t c2 hf
        exact ex11 y4_11 _ _ _ hP hD hS (lv_sub hl [0, 1, 2, 3, 4] rfl) hf
      · replace hf := dg_f c2 hf
        refine lv_iload_n hx hb dX5_tellsTrial_17 rfl (lv_at hl 4 rfl) ?_
        refine lv_iload hx hb dX5_tellsTrial_18 (lv_at hl 0 rfl) ?_
        refine lv_ishr hx hb dX5_tellsTrial_20 ?_
        refine lv_iconst (v := 1) hx hb dX5_tellsTrial_21 (by decide) ?_
        refine lv_iand hx hb dX5_tellsTrial_22 ?_
        refine lv_if_eq (tgt := 35) hx hb dX5_tellsTrial_23 (by decide) (fun c3 => ?_) (fun c3 => ?_)
        · replace hf := dg_t c3 hf
          refine lv_iinc (v := (y4_11 + (1:Int32))) (lv' := [(4, .int (y4_11 + (1:Int32))), (3, .int x1), (0, .ref ht), (1, .int a1), (2, .int a2)]) hx hb dX5_tellsTrial_35 hl (k := 0) rfl (by first | rfl | decide) (by decide) rfl (fun ls hl => ?_)
          refine lv_goto (tgt := 11) hx hb dX5_tellsTrial_38 (by decide) ?_
          exact ih11 (y4_11 + (1:Int32)) _ _ _ hP hD hS (lv_sub hl [0, 1, 2, 3, 4] rfl) hf
        · replace hf := dg_f c3 hf
          refine lv_iload hx hb dX5_tellsTrial_26 (lv_at hl 0 rfl) ?_
          refine lv_iload_n hx hb dX5_tellsTrial_28 rfl (lv_at hl 3 rfl) ?_
          refine lv_iand hx hb dX5_tellsTrial_29 ?_
          refine lv_if_ne (tgt := 35) hx hb dX5_tellsTrial_30 (by decide) (fun c4 => ?_) (fun c4 => ?_)
          · replace hf := dg_f c4 hf
            refine lv_iinc (v := (y4_11 + (1:Int32))) (lv' := [(4, .int (y4_11 + (1:Int32))), (3, .int x1), (0, .ref ht), (1, .int a1), (2, .int a2)]) hx hb dX5_tellsTrial_35 hl (k := 0) rfl (by first | rfl | decide) (by decide) rfl (fun ls hl => ?_)
            refine lv_goto (tgt := 11) hx hb dX5_tellsTrial_38 (by decide) ?_
            exact ih11 (y4_11 + (1:Int32)) _ _ _ hP hD hS (lv_sub hl [0, 1, 2, 3, 4] rfl) hf
          · replace hf := dg_t c4 hf
            refine lv_iconst (v := 0) hx hb dX5_tellsTrial_33 (by decide) ?_
            have he := Option.some.inj hf
            have hP9 := hP
            have hD9 := hD
            exact W.zret (v := (0:Int32)) (ty := .boolean) hx hb hr (by decide) (fun t eth hW => ⟨⟨(0:Int32), (), rfl, he.symm, by rw [eth]; exact hP9, va_K.moved hW.alike hK, hD9⟩, hS.F eth⟩) hS.2.2 dX5_tellsTrial_34
  exact lp11 N (0:Int32) _ _ _ hP hD hS hl hf
theorem hd_X5_power : yX5_power.cls ≠ "java/lang/invoke/MethodHandle" ∧ yX5_power.cls ≠ "java/lang/invoke/VarHandle" ∧ (parseMethodDescriptor yX5_power.desc).map (fun d => d.parameters.length) = some 2 := by decide +kernel
abbrev rm_X5_power : Room := { frames := 0, cells := 0, slots := 0, locals := 0 }
abbrev q_X5_power (dC : Nat → ClassId) (dI : Nat → Nat → Nat) (cI cJ cZ : ClassId) (R : Int32) (A : Nat → Prop) : Array Value → State → Outcome → State → Prop := va_Qi (fun (r : Int32) (_ : Unit) => R = r) (fun (u : Unit) (t : State) => va_P (dC, dI) vwCl [] t.heap ∧ va_K (dC, dI) vwCl [(cI, .int), (cJ, .long), (cZ, .boolean)] t ∧ va_D A []) A
set_option maxHeartbeats 4000000 in
set_option maxRecDepth 100000 in
theorem k_X5_power (l : Launch) (dC : Nat → ClassId) (dI : Nat → Nat → Nat) (cI cJ cZ : ClassId) (sz : Nat) (a0 : Int32) (a1 : Int32) (N : Nat) (R : Int32) (hf : f_X5_power N a0 a1 = some R) : Met l yX5_power wsX5_power (rm_X5_power) (va_Pc [.int a0, .int a1] (fun U => U.heap.size = sz ∧ va_P (dC, dI) vwCl [] U.heap ∧ va_K (dC, dI) vwCl [(cI, .int), (cJ, .long), (cZ, .boolean)] U ∧ va_D (fun _ => True) [])) (q_X5_power dC dI cI cJ cZ  R (va_A [] sz)) 0 0 (va_A [] sz) := by
  refine Met.ofW (cc := cX5_power) (maxL := 4) (ret := (some .int)) (by decide) rfl ?_
  intro p e s m args below meth c s₁ B hml hv
  obtain ⟨rfl, hsz, hP, hK, hD0⟩ := hv
  have hx := B.exec
  have hb := B.bytes
  have hr := B.returns
  have hts := atoms_spec (ws := wsX5_power) B.pre
  have hown : s.vm.findClass RX5 = some m.cls := findClass_of_methodNamed B.named
  have hlocks := B.notSynchronized
  clear B
  subst hsz
  have hD := hD0.self (sz := s.heap.size)
  clear hD0
  generalize hAe : va_A [] s.heap.size = A at hD ⊢
  have hA : ∀ q : Nat, s.heap.size ≤ q → A q := fun q h => by rw [← hAe]; exact Or.inr h
  clear hAe
  have hS : va_S A s.heap s.heap [] := va_S.rf
  have hl := lv_entry ([.int a0, .int a1]) (n := 4) (Nat.le_of_ble_eq_true rfl)
  rw [lg_entry_eq]
  generalize (lg_sl ([.int a0, .int a1]) ++ List.replicate (4 - (lg_sl ([.int a0, .int a1])).length) Slot.unset).toArray = ls at hl ⊢
  have hl : lv_has ls 4 [(0, .int a0), (1, .int a1)] := hl
  unfold f_X5_power at hf
  refine lv_iconst (v := 1) hx hb dX5_power_0 (by decide) ?_
  refine lv_istore_n (lv' := [(2, .int (1:Int32)), (0, .int a0), (1, .int a1)]) hx hb dX5_power_1 rfl hl (by decide) rfl (fun ls hl => ?_)
  refine lv_iconst (v := 0) hx hb dX5_power_2 (by decide) ?_
  refine lv_istore_n (lv' := [(3, .int (0:Int32)), (2, .int (1:Int32)), (0, .int a0), (1, .int a1)]) hx hb dX5_power_3 rfl hl (by decide) rfl (fun ls hl => ?_)
  have ex4 : ∀ (z2_4 : Int32) (z3_4 : Int32) (H : Heap) (locs : List Loc) (ls : Array Slot), va_P (dC, dI) vwCl [] H → va_D A [] → va_S A s.heap H locs → lv_has ls 4 [(3, .int z3_4), (2, .int z2_4), (0, .int a0), (1, .int a1)] → (some z2_4) = some R → W p l e (rm_X5_power) s m ([.int a0, .int a1] : List Value).toArray below meth c H locs 0 0 (MQ below (q_X5_power dC dI cI cJ cZ  R A) ([.int a0, .int a1] : List Value).toArray s 0 0 A) (F0 m 19 ls []) := by
    intro z2_4 z3_4 H locs ls hP hD hS hl hf
    refine lv_iload_n hx hb dX5_power_19 rfl (lv_at hl 1 rfl) ?_
    have he := Option.some.inj hf
    have hP9 := hP
    have hD9 := hD
    exact W.iret (v := z2_4) hx hb hr (fun t eth hW => ⟨⟨z2_4, (), rfl, he.symm, by rw [eth]; exact hP9, va_K.moved hW.alike hK, hD9⟩, hS.F eth⟩) hS.2.2 dX5_power_20
  have lp4 : ∀ (n4 : Nat) (y2_4 : Int32) (y3_4 : Int32) (H : Heap) (locs : List Loc) (ls : Array Slot), va_P (dC, dI) vwCl [] H → va_D A [] → va_S A s.heap H locs → lv_has ls 4 [(3, .int y3_4), (2, .int y2_4), (0, .int a0), (1, .int a1)] → f_X5_power_4 N a0 a1 (fun z2_4 z3_4 => some z2_4) n4 y2_4 y3_4 = some R → W p l e (rm_X5_power) s m ([.int a0, .int a1] : List Value).toArray below meth c H locs 0 0 (MQ below (q_X5_power dC dI cI cJ cZ  R A) ([.int a0, .int a1] : List Value).toArray s 0 0 A) (F0 m 4 ls []) := by
    intro n4
    induction n4 with
    | zero => intro y2_4 y3_4 H locs ls hP hD hS hl hf; rw [f_X5_power_4] at hf; cases hf
    | succ n4 ih4 =>
      intro y2_4 y3_4 H locs ls hP hD hS hl hf
      rw [f_X5_power_4] at hf
      refine lv_iload_n hx hb dX5_power_4 rfl (lv_at hl 0 rfl) ?_
      refine lv_iload_n hx hb dX5_power_5 rfl (lv_at hl 3 rfl) ?_
      refine lv_icmp_ge (tgt := 19) hx hb dX5_power_6 (by decide) (fun c1 => ?_) (fun c1 => ?_)
      · replace hf := dg_t c1 hf
        exact ex4 y2_4 y3_4 _ _ _ hP hD hS (lv_sub hl [0, 1, 2, 3] rfl) hf
      · replace hf := dg_f c1 hf
        refine lv_iload_n hx hb dX5_power_9 rfl (lv_at hl 1 rfl) ?_
        refine lv_iload_n hx hb dX5_power_10 rfl (lv_at hl 2 rfl) ?_
        refine lv_imul hx hb dX5_power_11 ?_
        refine lv_istore_n (lv' := [(2, .int (y2_4 * a0)), (3, .int y3_4), (0, .int a0), (1, .int a1)]) hx hb dX5_power_12 rfl hl (by decide) rfl (fun ls hl => ?_)
        refine lv_iinc (v := (y3_4 + (1:Int32))) (lv' := [(3, .int (y3_4 + (1:Int32))), (2, .int (y2_4 * a0)), (0, .int a0), (1, .int a1)]) hx hb dX5_power_13 hl (k := 1) rfl (by first | rfl | decide) (by decide) rfl (fun ls hl => ?_)
        refine lv_goto (tgt := 4) hx hb dX5_power_16 (by decide) ?_
        exact ih4 (y2_4 * a0) (y3_4 + (1:Int32)) _ _ _ hP hD hS (lv_sub hl [0, 1, 2, 3] rfl) hf
  exact lp4 N (1:Int32) (0:Int32) _ _ _ hP hD hS hl hf
theorem hd_X5_lost : yX5_lost.cls = RX5 ∧ yX5_lost.cls ≠ "java/lang/invoke/MethodHandle" ∧ yX5_lost.cls ≠ "java/lang/invoke/VarHandle" ∧ (parseMethodDescriptor yX5_lost.desc).map (fun d => d.parameters.length) = some 2 := by decide +kernel
abbrev rm_X5_lost : Room := { frames := 6, cells := 0, slots := 0, locals := 142 }
abbrev q_X5_lost (dC : Nat → ClassId) (dI : Nat → Nat → Nat) (cI cJ cZ : ClassId) (ht ht_text ht_bench ht_acts ht_drawers ht_told ht_pagesOfTrial ht_kept ht_bench_drops ht_bench_from ht_bench_to ht_bench_tires ht_bench_copies ht_bench_pages : Nat) (vt_spoken : Int32) (vt_nowSeed : Int64) (vt_bench_size : Int32) (vt_bench_drops : Nat → Int32) (vt_bench_from : Nat → Int32) (vt_bench_to : Nat → Int32) (vt_bench_tires : Nat → Int32) (vt_bench_copies : Nat → Int32) (R : Int32 × (Nat → Int32) × (Nat → Int32)) (A : Nat → Prop) : Array Value → State → Outcome → State → Prop := va_Qi (fun (r : Int32) (u : (Nat → Int32) × (Nat → Int32)) => R.1 = r ∧ R.2 = u) (fun (u : (Nat → Int32) × (Nat → Int32)) (t : State) => va_P (dC, dI) vwCl [(ht, .inr (4, [.ref ht_text, .ref ht_bench, .ref ht_acts, .ref ht_drawers, .ref ht_told, .ref ht_pagesOfTrial, .ref ht_kept, .int vt_spoken, .long vt_nowSeed])), (ht_bench, .inr (1, [.ref ht_bench_drops, .ref ht_bench_from, .ref ht_bench_to, .ref ht_bench_tires, .ref ht_bench_copies, .ref ht_bench_pages, .int vt_bench_size])), (ht_bench_drops, .inl (cI, 4, .inl vt_bench_drops)), (ht_bench_from, .inl (cI, 4, .inl vt_bench_from)), (ht_bench_to, .inl (cI, 4, .inl vt_bench_to)), (ht_bench_tires, .inl (cI, 4, .inl vt_bench_tires)), (ht_bench_copies, .inl (cI, 4, .inl vt_bench_copies)), (ht_bench_pages, .inl (cI, 4, .inl u.1)), (ht_pagesOfTrial, .inl (cI, 4, .inl u.2))] t.heap ∧ va_K (dC, dI) vwCl [(cI, .int), (cJ, .long), (cZ, .boolean)] t ∧ va_D A [(ht, .inr (4, [.ref ht_text, .ref ht_bench, .ref ht_acts, .ref ht_drawers, .ref ht_told, .ref ht_pagesOfTrial, .ref ht_kept, .int vt_spoken, .long vt_nowSeed])), (ht_bench, .inr (1, [.ref ht_bench_drops, .ref ht_bench_from, .ref ht_bench_to, .ref ht_bench_tires, .ref ht_bench_copies, .ref ht_bench_pages, .int vt_bench_size])), (ht_bench_drops, .inl (cI, 4, .inl vt_bench_drops)), (ht_bench_from, .inl (cI, 4, .inl vt_bench_from)), (ht_bench_to, .inl (cI, 4, .inl vt_bench_to)), (ht_bench_tires, .inl (cI, 4, .inl vt_bench_tires)), (ht_bench_copies, .inl (cI, 4, .inl vt_bench_copies)), (ht_bench_pages, .inl (cI, 4, .inl u.1)), (ht_pagesOfTrial, .inl (cI, 4, .inl u.2))]) A
set_option maxHeartbeats 4000000 in
set_option maxRecDepth 100000 in
theorem k_X5_lost (l : Launch) (dC : Nat → ClassId) (dI : Nat → Nat → Nat) (cI cJ cZ : ClassId) (sz : Nat) (ht ht_text ht_bench ht_acts ht_drawers ht_told ht_pagesOfTrial ht_kept ht_bench_drops ht_bench_from ht_bench_to ht_bench_tires ht_bench_copies ht_bench_pages : Nat) (a1 : Int32) (a2 : Int32) (vt_spoken : Int32) (vt_nowSeed : Int64) (vt_bench_size : Int32) (vt_bench_drops : Nat → Int32) (vt_bench_from : Nat → Int32) (vt_bench_to : Nat → Int32) (vt_bench_tires : Nat → Int32) (vt_bench_copies : Nat → Int32) (vt_bench_pages : Nat → Int32) (vt_pagesOfTrial : Nat → Int32) (N : Nat) (R : Int32 × (Nat → Int32) × (Nat → Int32)) (hf : f_X5_lost N a1 a2 vt_spoken vt_bench_size vt_bench_drops vt_bench_from vt_bench_to vt_bench_tires vt_bench_copies vt_bench_pages vt_pagesOfTrial = some R) : Met l yX5_lost wsX5_lost (rm_X5_lost) (va_Pc [.ref ht, .int a1, .int a2] (fun U => U.heap.size = sz ∧ va_P (dC, dI) vwCl [(ht, .inr (4, [.ref ht_text, .ref ht_bench, .ref ht_acts, .ref ht_drawers, .ref ht_told, .ref ht_pagesOfTrial, .ref ht_kept, .int vt_spoken, .long vt_nowSeed])), (ht_bench, .inr (1, [.ref ht_bench_drops, .ref ht_bench_from, .ref ht_bench_to, .ref ht_bench_tires, .ref ht_bench_copies, .ref ht_bench_pages, .int vt_bench_size])), (ht_bench_drops, .inl (cI, 4, .inl vt_bench_drops)), (ht_bench_from, .inl (cI, 4, .inl vt_bench_from)), (ht_bench_to, .inl (cI, 4, .inl vt_bench_to)), (ht_bench_tires, .inl (cI, 4, .inl vt_bench_tires)), (ht_bench_copies, .inl (cI, 4, .inl vt_bench_copies)), (ht_bench_pages, .inl (cI, 4, .inl vt_bench_pages)), (ht_pagesOfTrial, .inl (cI, 4, .inl vt_pagesOfTrial))] U.heap ∧ va_K (dC, dI) vwCl [(cI, .int), (cJ, .long), (cZ, .boolean)] U ∧ va_D (fun _ => True) [(ht, .inr (4, [.ref ht_text, .ref ht_bench, .ref ht_acts, .ref ht_drawers, .ref ht_told, .ref ht_pagesOfTrial, .ref ht_kept, .int vt_spoken, .long vt_nowSeed])), (ht_bench, .inr (1, [.ref ht_bench_drops, .ref ht_bench_from, .ref ht_bench_to, .ref ht_bench_tires, .ref ht_bench_copies, .ref ht_bench_pages, .int vt_bench_size])), (ht_bench_drops, .inl (cI, 4, .inl vt_bench_drops)), (ht_bench_from, .inl (cI, 4, .inl vt_bench_from)), (ht_bench_to, .inl (cI, 4, .inl vt_bench_to)), (ht_bench_tires, .inl (cI, 4, .inl vt_bench_tires)), (ht_bench_copies, .inl (cI, 4, .inl vt_bench_copies)), (ht_bench_pages, .inl (cI, 4, .inl vt_bench_pages)), (ht_pagesOfTrial, .inl (cI, 4, .inl vt_pagesOfTrial))])) (q_X5_lost dC dI cI cJ cZ ht ht_text ht_bench ht_acts ht_drawers ht_told ht_pagesOfTrial ht_kept ht_bench_drops ht_bench_from ht_bench_to ht_bench_tires ht_bench_copies ht_bench_pages vt_spoken vt_nowSeed vt_bench_size vt_bench_drops vt_bench_from vt_bench_to vt_bench_tires vt_bench_copies R (va_A [(ht, .inr (4, [.ref ht_text, .ref ht_bench, .ref ht_acts, .ref ht_drawers, .ref ht_told, .ref ht_pagesOfTrial, .ref ht_kept, .int vt_spoken, .long vt_nowSeed])), (ht_bench, .inr (1, [.ref ht_bench_drops, .ref ht_bench_from, .ref ht_bench_to, .ref ht_bench_tires, .ref ht_bench_copies, .ref ht_bench_pages, .int vt_bench_size])), (ht_bench_drops, .inl (cI, 4, .inl vt_bench_drops)), (ht_bench_from, .inl (cI, 4, .inl vt_bench_from)), (ht_bench_to, .inl (cI, 4, .inl vt_bench_to)), (ht_bench_tires, .inl (cI, 4, .inl vt_bench_tires)), (ht_bench_copies, .inl (cI, 4, .inl vt_bench_copies)), (ht_bench_pages, .inl (cI, 4, .inl vt_bench_pages)), (ht_pagesOfTrial, .inl (cI, 4, .inl vt_pagesOfTrial))] sz)) 0 0 (va_A [(ht, .inr (4, [.ref ht_text, .ref ht_bench, .ref ht_acts, .ref ht_drawers, .ref ht_told, .ref ht_pagesOfTrial, .ref ht_kept, .int vt_spoken, .long vt_nowSeed])), (ht_bench, .inr (1, [.ref ht_bench_drops, .ref ht_bench_from, .ref ht_bench_to, .ref ht_bench_tires, .ref ht_bench_copies, .ref ht_bench_pages, .int vt_bench_size])), (ht_bench_drops, .inl (cI, 4, .inl vt_bench_drops)), (ht_bench_from, .inl (cI, 4, .inl vt_bench_from)), (ht_bench_to, .inl (cI, 4, .inl vt_bench_to)), (ht_bench_tires, .inl (cI, 4, .inl vt_bench_tires)), (ht_bench_copies, .inl (cI, 4, .inl vt_bench_copies)), (ht_bench_pages, .inl (cI, 4, .inl vt_bench_pages)), (ht_pagesOfTrial, .inl (cI, 4, .inl vt_pagesOfTrial))] sz) := by
  refine Met.ofW (cc := cX5_lost) (maxL := 8) (ret := (some .int)) (by decide) rfl ?_
  intro p e s m args below meth c s₁ B hml hv
  obtain ⟨rfl, hsz, hP, hK, hD0⟩ := hv
  have hx := B.exec
  have hb := B.bytes
  have hr := B.returns
  have hts := atoms_spec (ws := wsX5_lost) B.pre
  have hown : s.vm.findClass RX5 = some m.cls := findClass_of_methodNamed B.named
  have hlocks := B.notSynchronized
  clear B
  subst hsz
  have hw0 := hts (.fieldLink RX5 50 "ShorthandCourt" "spoken" "I") (by decide +kernel)
  have hw1 := hts (.fieldLink RX5 19 "ShorthandCourt" "bench" "LShorthandCourt$Bench;") (by decide +kernel)
  have hw2 := hts (.fieldLink RX5 83 "ShorthandCourt$Bench" "size" "I") (by decide +kernel)
  have hinX1 : ∀ w ∈ u_ws RX1 TX1 7, w ∈ wsX5_lost := by decide +kernel
  have hinX5 : ∀ w ∈ u_ws RX5 TX5 9, w ∈ wsX5_lost := by decide +kernel
  have hD := hD0.self (sz := s.heap.size)
  clear hD0
  generalize hAe : va_A [(ht, .inr (4, [.ref ht_text, .ref ht_bench, .ref ht_acts, .ref ht_drawers, .ref ht_told, .ref ht_pagesOfTrial, .ref ht_kept, .int vt_spoken, .long vt_nowSeed])), (ht_bench, .inr (1, [.ref ht_bench_drops, .ref ht_bench_from, .ref ht_bench_to, .ref ht_bench_tires, .ref ht_bench_copies, .ref ht_bench_pages, .int vt_bench_size])), (ht_bench_drops, .inl (cI, 4, .inl vt_bench_drops)), (ht_bench_from, .inl (cI, 4, .inl vt_bench_from)), (ht_bench_to, .inl (cI, 4, .inl vt_bench_to)), (ht_bench_tires, .inl (cI, 4, .inl vt_bench_tires)), (ht_bench_copies, .inl (cI, 4, .inl vt_bench_copies)), (ht_bench_pages, .inl (cI, 4, .inl vt_bench_pages)), (ht_pagesOfTrial, .inl (cI, 4, .inl vt_pagesOfTrial))] s.heap.size = A at hD ⊢
  have hA : ∀ q : Nat, s.heap.size ≤ q → A q := fun q h => by rw [← hAe]; exact Or.inr h
  clear hAe
  have hS : va_S A s.heap s.heap [] := va_S.rf
  have hl := lv_entry ([.ref ht, .int a1, .int a2]) (n := 8) (Nat.le_of_ble_eq_true rfl)
  rw [lg_entry_eq]
  generalize (lg_sl ([.ref ht, .int a1, .int a2]) ++ List.replicate (8 - (lg_sl ([.ref ht, .int a1, .int a2])).length) Slot.unset).toArray = ls at hl ⊢
  have hl : lv_has ls 8 [(0, .ref ht), (1, .int a1), (2, .int a2)] := hl
  unfold f_X5_lost at hf
  refine lv_iload_n hx hb dX5_lost_0 rfl (lv_at hl 1 rfl) ?_
  refine lv_if_lt (tgt := 10) hx hb dX5_lost_1 (by decide) (fun c1 => ?_) (fun c1 => ?_)
  · replace hf := dg_t c1 hf
    refine lv_bipush (v := -2) hx hb dX5_lost_10 (by decide) ?_
    have he := Option.some.inj hf
    have hP9 := hP
    have hD9 := hD
    exact W.iret (v := (-2:Int32)) hx hb hr (fun t eth hW => ⟨⟨(-2:Int32), (vt_bench_pages, vt_pagesOfTrial), rfl, ⟨(congrArg Prod.fst he).symm, (congrArg Prod.snd he).symm⟩, by rw [eth]; exact hP9, va_K.moved hW.alike hK, hD9⟩, hS.F eth⟩) hS.2.2 dX5_lost_12
  · replace hf := dg_f c1 hf
    refine lv_iload_n hx hb dX5_lost_4 rfl (lv_at hl 1 rfl) ?_
    refine lv_bipush (v := 10) hx hb dX5_lost_5 (by decide) ?_
    refine lv_icmp_le (tgt := 13) hx hb dX5_lost_7 (by decide) (fun c2 => ?_) (fun c2 => ?_)
    · replace hf := dg_t c2 hf
      refine lv_aload_n hx hb dX5_lost_13 rfl (lv_at hl 0 rfl) ?_
      refine va_get (D := (dC, dI)) (ci := 4) (v := .int vt_spoken) (C := RX5) (T := TX5) (N := 9) hx hb hts hinX5 hown hK hP 0 rfl rfl 7 (by decide) hw0 (fun _ h9 => h9) rfl dX5_lost_14 ?_
      obtain ⟨x3, hx3, hf⟩ := dg_bind hf
      have hPc : va_P (dC, dI) vwCl [] s.heap := hP.sub [] rfl
      have hDc : va_D A [] := hD.sub [] (by decide) rfl
      have hFc := va_free (wc := []) hD hS hA [] rfl
      refine va_calli (va_runS (As := [.int vt_spoken]) (rest := []) ⟨hx, hb, hml, hown, hts⟩ (k_X4_wordsIn l dC dI cI cJ cZ s.heap.size vt_spoken N x3 hx3) (va_cwS 1 hts gX5_lost_X4_wordsIn rfl rfl rfl hd_X4_wordsIn ⟨Nat.le_of_ble_eq_true rfl, Nat.le_of_ble_eq_true rfl⟩) ⟨blind_pc, pre_pc hPc hK hDc⟩ rfl rfl hl.1 rfl (lv_room (Nat.le_of_ble_eq_true rfl)) dX5_lost_17 ⟨Nat.zero_le _, Nat.zero_le _⟩) hS (fun q _ h => hFc q h) hFc (fun r u t H1 locs eth hvm hw hB hz1 hk1 hS => ?_)
      obtain ⟨hP1, hK1, hD1⟩ := hB
      rw [eth] at hP1
      subst hw
      obtain ⟨hP, hD⟩ := va_join (wr := [(ht, .inr (4, [.ref ht_text, .ref ht_bench, .ref ht_acts, .ref ht_drawers, .ref ht_told, .ref ht_pagesOfTrial, .ref ht_kept, .int vt_spoken, .long vt_nowSeed])), (ht_bench, .inr (1, [.ref ht_bench_drops, .ref ht_bench_from, .ref ht_bench_to, .ref ht_bench_tires, .ref ht_bench_copies, .ref ht_bench_pages, .int vt_bench_size])), (ht_bench_drops, .inl (cI, 4, .inl vt_bench_drops)), (ht_bench_from, .inl (cI, 4, .inl vt_bench_from)), (ht_bench_to, .inl (cI, 4, .inl vt_bench_to)), (ht_bench_tires, .inl (cI, 4, .inl vt_bench_tires)), (ht_bench_copies, .inl (cI, 4, .inl vt_bench_copies)), (ht_bench_pages, .inl (cI, 4, .inl vt_bench_pages)), (ht_pagesOfTrial, .inl (cI, 4, .inl vt_pagesOfTrial))]) (w1 := []) hP hD [] [0, 1, 2, 3, 4, 5, 6, 7, 8] rfl rfl (by decide) (by decide) hk1 hFc hP1 hD1
      clear hP1 hK1 hD1 hPc hDc hFc hk1 hz1 hvm eth
      generalize H1 = H at hP hS ⊢
      have hP : va_P (dC, dI) vwCl [(ht, .inr (4, [.ref ht_text, .ref ht_bench, .ref ht_acts, .ref ht_drawers, .ref ht_told, .ref ht_pagesOfTrial, .ref ht_kept, .int vt_spoken, .long vt_nowSeed])), (ht_bench, .inr (1, [.ref ht_bench_drops, .ref ht_bench_from, .ref ht_bench_to, .ref ht_bench_tires, .ref ht_bench_copies, .ref ht_bench_pages, .int vt_bench_size])), (ht_bench_drops, .inl (cI, 4, .inl vt_bench_drops)), (ht_bench_from, .inl (cI, 4, .inl vt_bench_from)), (ht_bench_to, .inl (cI, 4, .inl vt_bench_to)), (ht_bench_tires, .inl (cI, 4, .inl vt_bench_tires)), (ht_bench_copies, .inl (cI, 4, .inl vt_bench_copies)), (ht_bench_pages, .inl (cI, 4, .inl vt_bench_pages)), (ht_pagesOfTrial, .inl (cI, 4, .inl vt_pagesOfTrial))] H := hP
      have hD : va_D A [(ht, .inr (4, [.ref ht_text, .ref ht_bench, .ref ht_acts, .ref ht_drawers, .ref ht_told, .ref ht_pagesOfTrial, .ref ht_kept, .int vt_spoken, .long vt_nowSeed])), (ht_bench, .inr (1, [.ref ht_bench_drops, .ref ht_bench_from, .ref ht_bench_to, .ref ht_bench_tires, .ref ht_bench_copies, .ref ht_bench_pages, .int vt_bench_size])), (ht_bench_drops, .inl (cI, 4, .inl vt_bench_drops)), (ht_bench_from, .inl (cI, 4, .inl vt_bench_from)), (ht_bench_to, .inl (cI, 4, .inl vt_bench_to)), (ht_bench_tires, .inl (cI, 4, .inl vt_bench_tires)), (ht_bench_copies, .inl (cI, 4, .inl vt_bench_copies)), (ht_bench_pages, .inl (cI, 4, .inl vt_bench_pages)), (ht_pagesOfTrial, .inl (cI, 4, .inl vt_pagesOfTrial))] := hD
      refine lv_iconst (v := 5) hx hb dX5_lost_20 (by decide) ?_
      refine lv_icmp_le (tgt := 27) hx hb dX5_lost_21 (by decide) (fun c4 => ?_) (fun c4 => ?_)
      · replace hf := dg_t c4 hf
        refine lv_aload_n hx hb dX5_lost_27 rfl (lv_at hl 0 rfl) ?_
        obtain ⟨x5, hx5, hf⟩ := dg_bind hf
        have hPc : va_P (dC, dI) vwCl [(ht, .inr (4, [.ref ht_text, .ref ht_bench, .ref ht_acts, .ref ht_drawers, .ref ht_told, .ref ht_pagesOfTrial, .ref ht_kept, .int vt_spoken, .long vt_nowSeed])), (ht_bench, .inr (1, [.ref ht_bench_drops, .ref ht_bench_from, .ref ht_bench_to, .ref ht_bench_tires, .ref ht_bench_copies, .ref ht_bench_pages, .int vt_bench_size])), (ht_bench_drops, .inl (cI, 4, .inl vt_bench_drops)), (ht_bench_from, .inl (cI, 4, .inl vt_bench_from)), (ht_bench_to, .inl (cI, 4, .inl vt_bench_to)), (ht_bench_tires, .inl (cI, 4, .inl vt_bench_tires)), (ht_bench_copies, .inl (cI, 4, .inl vt_bench_copies)), (ht_bench_pages, .inl (cI, 4, .inl vt_bench_pages)), (ht_pagesOfTrial, .inl (cI, 4, .inl vt_pagesOfTrial))] H := hP.sub [0, 1, 2, 3, 4, 5, 6, 7, 8] rfl
        have hDc : va_D A [(ht, .inr (4, [.ref ht_text, .ref ht_bench, .ref ht_acts, .ref ht_drawers, .ref ht_told, .ref ht_pagesOfTrial, .ref ht_kept, .int vt_spoken, .long vt_nowSeed])), (ht_bench, .inr (1, [.ref ht_bench_drops, .ref ht_bench_from, .ref ht_bench_to, .ref ht_bench_tires, .ref ht_bench_copies, .ref ht_bench_pages, .int vt_bench_size])), (ht_bench_drops, .inl (cI, 4, .inl vt_bench_drops)), (ht_bench_from, .inl (cI, 4, .inl vt_bench_from)), (ht_bench_to, .inl (cI, 4, .inl vt_bench_to)), (ht_bench_tires, .inl (cI, 4, .inl vt_bench_tires)), (ht_bench_copies, .inl (cI, 4, .inl vt_bench_copies)), (ht_bench_pages, .inl (cI, 4, .inl vt_bench_pages)), (ht_pagesOfTrial, .inl (cI, 4, .inl vt_pagesOfTrial))] := hD.sub [0, 1, 2, 3, 4, 5, 6, 7, 8] (by decide) rfl
        have hFc := va_free (wc := [(ht, .inr (4, [.ref ht_text, .ref ht_bench, .ref ht_acts, .ref ht_drawers, .ref ht_told, .ref ht_pagesOfTrial, .ref ht_kept, .int vt_spoken, .long vt_nowSeed])), (ht_bench, .inr (1, [.ref ht_bench_drops, .ref ht_bench_from, .ref ht_bench_to, .ref ht_bench_tires, .ref ht_bench_copies, .ref ht_bench_pages, .int vt_bench_size])), (ht_bench_drops, .inl (cI, 4, .inl vt_bench_drops)), (ht_bench_from, .inl (cI, 4, .inl vt_bench_from)), (ht_bench_to, .inl (cI, 4, .inl vt_bench_to)), (ht_bench_tires, .inl (cI, 4, .inl vt_bench_tires)), (ht_bench_copies, .inl (cI, 4, .inl vt_bench_copies)), (ht_bench_pages, .inl (cI, 4, .inl vt_bench_pages)), (ht_pagesOfTrial, .inl (cI, 4, .inl vt_pagesOfTrial))]) hD hS hA [0, 1, 2, 3, 4, 5, 6, 7, 8] rfl
        refine va_calli (va_runV (As := []) (rest := []) ⟨hx, hb, hml, hown, hts⟩ (k_X5_setsUnlikeTrial l dC dI cI cJ cZ H.size ht ht_text ht_bench ht_acts ht_drawers ht_told ht_pagesOfTrial ht_kept ht_bench_drops ht_bench_from ht_bench_to ht_bench_tires ht_bench_copies ht_bench_pages vt_spoken vt_nowSeed vt_bench_size vt_bench_drops vt_bench_from vt_bench_to vt_bench_tires vt_bench_copies vt_bench_pages vt_pagesOfTrial N x5 hx5) (cwV 0 hts gX5_lost_X5_setsUnlikeTrial rfl rfl rfl hd_X5_setsUnlikeTrial ⟨Nat.le_of_ble_eq_true rfl, Nat.le_of_ble_eq_true rfl⟩) ⟨blind_pc, va_recv hK hPc (ci := 4) (q0 := 0) rfl rfl, pre_pc hPc hK hDc⟩ rfl rfl hl.1 rfl (lv_room (Nat.le_of_ble_eq_true rfl)) dX5_lost_28 ⟨Nat.zero_le _, Nat.zero_le _⟩) hS (fun q _ h => hFc q h) hFc (fun r u t H1 locs eth hvm hw hB hz1 hk1 hS => ?_)
        obtain ⟨hP1, hK1, hD1⟩ := hB
        rw [eth] at hP1
        obtain ⟨hw, hw2⟩ := hw
        subst hw; subst hw2
        obtain ⟨hP, hD⟩ := va_join (wr := []) (w1 := [(ht, .inr (4, [.ref ht_text, .ref ht_bench, .ref ht_acts, .ref ht_drawers, .ref ht_told, .ref ht_pagesOfTrial, .ref ht_kept, .int vt_spoken, .long vt_nowSeed])), (ht_bench, .inr (1, [.ref ht_bench_drops, .ref ht_bench_from, .ref ht_bench_to, .ref ht_bench_tires, .ref ht_bench_copies, .ref ht_bench_pages, .int vt_bench_size])), (ht_bench_drops, .inl (cI, 4, .inl vt_bench_drops)), (ht_bench_from, .inl (cI, 4, .inl vt_bench_from)), (ht_bench_to, .inl (cI, 4, .inl vt_bench_to)), (ht_bench_tires, .inl (cI, 4, .inl vt_bench_tires)), (ht_bench_copies, .inl (cI, 4, .inl vt_bench_copies)), (ht_bench_pages, .inl (cI, 4, .inl x5.2.1)), (ht_pagesOfTrial, .inl (cI, 4, .inl x5.2.2))]) hP hD [0, 1, 2, 3, 4, 5, 6, 7, 8] [] rfl rfl (by decide) (by decide) hk1 hFc hP1 hD1
        clear hP1 hK1 hD1 hPc hDc hFc hk1 hz1 hvm eth
        generalize H1 = H at hP hS ⊢
        have hP : va_P (dC, dI) vwCl [(ht, .inr (4, [.ref ht_text, .ref ht_bench, .ref ht_acts, .ref ht_drawers, .ref ht_told, .ref ht_pagesOfTrial, .ref ht_kept, .int vt_spoken, .long vt_nowSeed])), (ht_bench, .inr (1, [.ref ht_bench_drops, .ref ht_bench_from, .ref ht_bench_to, .ref ht_bench_tires, .ref ht_bench_copies, .ref ht_bench_pages, .int vt_bench_size])), (ht_bench_drops, .inl (cI, 4, .inl vt_bench_drops)), (ht_bench_from, .inl (cI, 4, .inl vt_bench_from)), (ht_bench_to, .inl (cI, 4, .inl vt_bench_to)), (ht_bench_tires, .inl (cI, 4, .inl vt_bench_tires)), (ht_bench_copies, .inl (cI, 4, .inl vt_bench_copies)), (ht_bench_pages, .inl (cI, 4, .inl x5.2.1)), (ht_pagesOfTrial, .inl (cI, 4, .inl x5.2.2))] H := hP
        have hD : va_D A [(ht, .inr (4, [.ref ht_text, .ref ht_bench, .ref ht_acts, .ref ht_drawers, .ref ht_told, .ref ht_pagesOfTrial, .ref ht_kept, .int vt_spoken, .long vt_nowSeed])), (ht_bench, .inr (1, [.ref ht_bench_drops, .ref ht_bench_from, .ref ht_bench_to, .ref ht_bench_tires, .ref ht_bench_copies, .ref ht_bench_pages, .int vt_bench_size])), (ht_bench_drops, .inl (cI, 4, .inl vt_bench_drops)), (ht_bench_from, .inl (cI, 4, .inl vt_bench_from)), (ht_bench_to, .inl (cI, 4, .inl vt_bench_to)), (ht_bench_tires, .inl (cI, 4, .inl vt_bench_tires)), (ht_bench_copies, .inl (cI, 4, .inl vt_bench_copies)), (ht_bench_pages, .inl (cI, 4, .inl x5.2.1)), (ht_pagesOfTrial, .inl (cI, 4, .inl x5.2.2))] := hD
        refine lv_istore_n (lv' := [(3, .int x5.1), (0, .ref ht), (1, .int a1), (2, .int a2)]) hx hb dX5_lost_31 rfl hl (by decide) rfl (fun ls hl => ?_)
        refine lv_aload_n hx hb dX5_lost_32 rfl (lv_at hl 1 rfl) ?_
        refine va_get (D := (dC, dI)) (ci := 4) (v := .ref ht_bench) (C := RX5) (T := TX5) (N := 9) hx hb hts hinX5 hown hK hP 0 rfl rfl 1 (by decide) hw1 (fun _ h9 => h9) rfl dX5_lost_33 ?_
        obtain ⟨x6, hx6, hf⟩ := dg_bind hf
        have hPc : va_P (dC, dI) vwCl [(ht_bench, .inr (1, [.ref ht_bench_drops, .ref ht_bench_from, .ref ht_bench_to, .ref ht_bench_tires, .ref ht_bench_copies, .ref ht_bench_pages, .int vt_bench_size]))] H := hP.sub [1] rfl
        have hDc : va_D A [(ht_bench, .inr (1, [.ref ht_bench_drops, .ref ht_bench_from, .ref ht_bench_to, .ref ht_bench_tires, .ref ht_bench_copies, .ref ht_bench_pages, .int vt_bench_size]))] := hD.sub [1] (by decide) rfl
        have hFc := va_free (wc := [(ht_bench, .inr (1, [.ref ht_bench_drops, .ref ht_bench_from, .ref ht_bench_to, .ref ht_bench_tires, .ref ht_bench_copies, .ref ht_bench_pages, .int vt_bench_size]))]) hD hS hA [1] rfl
        refine va_calli (va_runV (As := []) (rest := []) ⟨hx, hb, hml, hown, hts⟩ (k_X1_everybody l dC dI cI cJ cZ H.size ht_bench ht_bench_drops ht_bench_from ht_bench_to ht_bench_tires ht_bench_copies ht_bench_pages vt_bench_size N x6 hx6) (cwV 0 hts gX5_lost_X1_everybody rfl rfl rfl hd_X1_everybody ⟨Nat.le_of_ble_eq_true rfl, Nat.le_of_ble_eq_true rfl⟩) ⟨blind_pc, va_recv hK hPc (ci := 1) (q0 := 0) rfl rfl, pre_pc hPc hK hDc⟩ rfl rfl hl.1 rfl (lv_room (Nat.le_of_ble_eq_true rfl)) dX5_lost_36 ⟨Nat.zero_le _, Nat.zero_le _⟩) hS (fun q _ h => hFc q h) hFc (fun r u t H1 locs eth hvm hw hB hz1 hk1 hS => ?_)
        obtain ⟨hP1, hK1, hD1⟩ := hB
        rw [eth] at hP1
        subst hw
        obtain ⟨hP, hD⟩ := va_join (wr := [(ht, .inr (4, [.ref ht_text, .ref ht_bench, .ref ht_acts, .ref ht_drawers, .ref ht_told, .ref ht_pagesOfTrial, .ref ht_kept, .int vt_spoken, .long vt_nowSeed])), (ht_bench_drops, .inl (cI, 4, .inl vt_bench_drops)), (ht_bench_from, .inl (cI, 4, .inl vt_bench_from)), (ht_bench_to, .inl (cI, 4, .inl vt_bench_to)), (ht_bench_tires, .inl (cI, 4, .inl vt_bench_tires)), (ht_bench_copies, .inl (cI, 4, .inl vt_bench_copies)), (ht_bench_pages, .inl (cI, 4, .inl x5.2.1)), (ht_pagesOfTrial, .inl (cI, 4, .inl x5.2.2))]) (w1 := [(ht_bench, .inr (1, [.ref ht_bench_drops, .ref ht_bench_from, .ref ht_bench_to, .ref ht_bench_tires, .ref ht_bench_copies, .ref ht_bench_pages, .int vt_bench_size]))]) hP hD [1] [0, 2, 3, 4, 5, 6, 7, 8] rfl rfl (by decide) (by decide) hk1 hFc hP1 hD1
        clear hP1 hK1 hD1 hPc hDc hFc hk1 hz1 hvm eth
        generalize H1 = H at hP hS ⊢
        have hP : va_P (dC, dI) vwCl [(ht, .inr (4, [.ref ht_text, .ref ht_bench, .ref ht_acts, .ref ht_drawers, .ref ht_told, .ref ht_pagesOfTrial, .ref ht_kept, .int vt_spoken, .long vt_nowSeed])), (ht_bench_drops, .inl (cI, 4, .inl vt_bench_drops)), (ht_bench_from, .inl (cI, 4, .inl vt_bench_from)), (ht_bench_to, .inl (cI, 4, .inl vt_bench_to)), (ht_bench_tires, .inl (cI, 4, .inl vt_bench_tires)), (ht_bench_copies, .inl (cI, 4, .inl vt_bench_copies)), (ht_bench_pages, .inl (cI, 4, .inl x5.2.1)), (ht_pagesOfTrial, .inl (cI, 4, .inl x5.2.2)), (ht_bench, .inr (1, [.ref ht_bench_drops, .ref ht_bench_from, .ref ht_bench_to, .ref ht_bench_tires, .ref ht_bench_copies, .ref ht_bench_pages, .int vt_bench_size]))] H := hP
        have hD : va_D A [(ht, .inr (4, [.ref ht_text, .ref ht_bench, .ref ht_acts, .ref ht_drawers, .ref ht_told, .ref ht_pagesOfTrial, .ref ht_kept, .int vt_spoken, .long vt_nowSeed])), (ht_bench_drops, .inl (cI, 4, .inl vt_bench_drops)), (ht_bench_from, .inl (cI, 4, .inl vt_bench_from)), (ht_bench_to, .inl (cI, 4, .inl vt_bench_to)), (ht_bench_tires, .inl (cI, 4, .inl vt_bench_tires)), (ht_bench_copies, .inl (cI, 4, .inl vt_bench_copies)), (ht_bench_pages, .inl (cI, 4, .inl x5.2.1)), (ht_pagesOfTrial, .inl (cI, 4, .inl x5.2.2)), (ht_bench, .inr (1, [.ref ht_bench_drops, .ref ht_bench_from, .ref ht_bench_to, .ref ht_bench_tires, .ref ht_bench_copies, .ref ht_bench_pages, .int vt_bench_size]))] := hD
        refine lv_istore (lv' := [(4, .int x6), (3, .int x5.1), (0, .ref ht), (1, .int a1), (2, .int a2)]) hx hb dX5_lost_39 hl (by decide) rfl (fun ls hl => ?_)
        refine lv_iconst (v := 0) hx hb dX5_lost_41 (by decide) ?_
        refine lv_istore (lv' := [(5, .int (0:Int32)), (4, .int x6), (3, .int x5.1), (0, .ref ht), (1, .int a1), (2, .int a2)]) hx hb dX5_lost_42 hl (by decide) rfl (fun ls hl => ?_)
        refine lv_iconst (v := 0) hx hb dX5_lost_44 (by decide) ?_
        refine lv_istore (lv' := [(6, .int (0:Int32)), (5, .int (0:Int32)), (4, .int x6), (3, .int x5.1), (0, .ref ht), (1, .int a1), (2, .int a2)]) hx hb dX5_lost_45 hl (by decide) rfl (fun ls hl => ?_)
        have ex47 : ∀ (z5_47 : Int32) (z6_47 : Int32) (H : Heap) (locs : List Loc) (ls : Array Slot), va_P (dC, dI) vwCl [(ht, .inr (4, [.ref ht_text, .ref ht_bench, .ref ht_acts, .ref ht_drawers, .ref ht_told, .ref ht_pagesOfTrial, .ref ht_kept, .int vt_spoken, .long vt_nowSeed])), (ht_bench_drops, .inl (cI, 4, .inl vt_bench_drops)), (ht_bench_from, .inl (cI, 4, .inl vt_bench_from)), (ht_bench_to, .inl (cI, 4, .inl vt_bench_to)), (ht_bench_tires, .inl (cI, 4, .inl vt_bench_tires)), (ht_bench_copies, .inl (cI, 4, .inl vt_bench_copies)), (ht_bench_pages, .inl (cI, 4, .inl x5.2.1)), (ht_pagesOfTrial, .inl (cI, 4, .inl x5.2.2)), (ht_bench, .inr (1, [.ref ht_bench_drops, .ref ht_bench_from, .ref ht_bench_to, .ref ht_bench_tires, .ref ht_bench_copies, .ref ht_bench_pages, .int vt_bench_size]))] H → va_D A [(ht, .inr (4, [.ref ht_text, .ref ht_bench, .ref ht_acts, .ref ht_drawers, .ref ht_told, .ref ht_pagesOfTrial, .ref ht_kept, .int vt_spoken, .long vt_nowSeed])), (ht_bench_drops, .inl (cI, 4, .inl vt_bench_drops)), (ht_bench_from, .inl (cI, 4, .inl vt_bench_from)), (ht_bench_to, .inl (cI, 4, .inl vt_bench_to)), (ht_bench_tires, .inl (cI, 4, .inl vt_bench_tires)), (ht_bench_copies, .inl (cI, 4, .inl vt_bench_copies)), (ht_bench_pages, .inl (cI, 4, .inl x5.2.1)), (ht_pagesOfTrial, .inl (cI, 4, .inl x5.2.2)), (ht_bench, .inr (1, [.ref ht_bench_drops, .ref ht_bench_from, .ref ht_bench_to, .ref ht_bench_tires, .ref ht_bench_copies, .ref ht_bench_pages, .int vt_bench_size]))] → va_S A s.heap H locs → lv_has ls 8 [(6, .int z6_47), (5, .int z5_47), (4, .int x6), (3, .int x5.1), (0, .ref ht), (1, .int a1), (2, .int a2)] → ((f_X5_power N (10:Int32) vt_bench_size).bind (fun x7 => (f_X5_partOfFraction N z5_47 x7 a2).bind (fun x8 => some (x8, (x5.2.1, x5.2.2))))) = some R → W p l e (rm_X5_lost) s m ([.ref ht, .int a1, .int a2] : List Value).toArray below meth c H locs 0 0 (MQ below (q_X5_lost dC dI cI cJ cZ ht ht_text ht_bench ht_acts ht_drawers ht_told ht_pagesOfTrial ht_kept ht_bench_drops ht_bench_from ht_bench_to ht_bench_tires ht_bench_copies ht_bench_pages vt_spoken vt_nowSeed vt_bench_size vt_bench_drops vt_bench_from vt_bench_to vt_bench_tires vt_bench_copies R A) ([.ref ht, .int a1, .int a2] : List Value).toArray s 0 0 A) (F0 m 106 ls []) := by
          intro z5_47 z6_47 H locs ls hP hD hS hl hf
          refine lv_iload hx hb dX5_lost_106 (lv_at hl 1 rfl) ?_
          refine lv_bipush (v := 10) hx hb dX5_lost_108 (by decide) ?_
          refine lv_aload_n hx hb dX5_lost_110 rfl (lv_at hl 4 rfl) ?_
          refine va_get (D := (dC, dI)) (ci := 4) (v := .ref ht_bench) (C := RX5) (T := TX5) (N := 9) hx hb hts hinX5 hown hK hP 0 rfl rfl 1 (by decide) hw1 (fun _ h9 => h9) rfl dX5_lost_111 ?_
          refine va_get (D := (dC, dI)) (ci := 1) (v := .int vt_bench_size) (C := RX1) (T := TX1) (N := 7) hx hb hts hinX1 hown hK hP 8 rfl rfl 6 (by decide) hw2 (fun _ h9 => h9) rfl dX5_lost_114 ?_
          obtain ⟨x7, hx7, hf⟩ := dg_bind hf
          have hPc : va_P (dC, dI) vwCl [] H := hP.sub [] rfl
          have hDc : va_D A [] := hD.sub [] (by decide) rfl
          have hFc := va_free (wc := []) hD hS hA [] rfl
          refine va_calli (va_runS (As := [.int (10:Int32), .int vt_bench_size]) (rest := [.int z5_47]) ⟨hx, hb, hml, hown, hts⟩ (k_X5_power l dC dI cI cJ cZ H.size (10:Int32) vt_bench_size N x7 hx7) (va_cwS 2 hts gX5_lost_X5_power rfl rfl rfl hd_X5_power ⟨Nat.le_of_ble_eq_true rfl, Nat.le_of_ble_eq_true rfl⟩) ⟨blind_pc, pre_pc hPc hK hDc⟩ rfl rfl hl.1 rfl (lv_room (Nat.le_of_ble_eq_true rfl)) dX5_lost_117 ⟨Nat.zero_le _, Nat.zero_le _⟩) hS (fun q _ h => hFc q h) hFc (fun r u t H1 locs eth hvm hw hB hz1 hk1 hS => ?_)
          obtain ⟨hP1, hK1, hD1⟩ := hB
          rw [eth] at hP1
          subst hw
          obtain ⟨hP, hD⟩ := va_join (wr := [(ht, .inr (4, [.ref ht_text, .ref ht_bench, .ref ht_acts, .ref ht_drawers, .ref ht_told, .ref ht_pagesOfTrial, .ref ht_kept, .int vt_spoken, .long vt_nowSeed])), (ht_bench_drops, .inl (cI, 4, .inl vt_bench_drops)), (ht_bench_from, .inl (cI, 4, .inl vt_bench_from)), (ht_bench_to, .inl (cI, 4, .inl vt_bench_to)), (ht_bench_tires, .inl (cI, 4, .inl vt_bench_tires)), (ht_bench_copies, .inl (cI, 4, .inl vt_bench_copies)), (ht_bench_pages, .inl (cI, 4, .inl x5.2.1)), (ht_pagesOfTrial, .inl (cI, 4, .inl x5.2.2)), (ht_bench, .inr (1, [.ref ht_bench_drops, .ref ht_bench_from, .ref ht_bench_to, .ref ht_bench_tires, .ref ht_bench_copies, .ref ht_bench_pages, .int vt_bench_size]))]) (w1 := []) hP hD [] [0, 1, 2, 3, 4, 5, 6, 7, 8] rfl rfl (by decide) (by decide) hk1 hFc hP1 hD1
          clear hP1 hK1 hD1 hPc hDc hFc hk1 hz1 hvm eth
          generalize H1 = H at hP hS ⊢
          have hP : va_P (dC, dI) vwCl [(ht, .inr (4, [.ref ht_text, .ref ht_bench, .ref ht_acts, .ref ht_drawers, .ref ht_told, .ref ht_pagesOfTrial, .ref ht_kept, .int vt_spoken, .long vt_nowSeed])), (ht_bench_drops, .inl (cI, 4, .inl vt_bench_drops)), (ht_bench_from, .inl (cI, 4, .inl vt_bench_from)), (ht_bench_to, .inl (cI, 4, .inl vt_bench_to)), (ht_bench_tires, .inl (cI, 4, .inl vt_bench_tires)), (ht_bench_copies, .inl (cI, 4, .inl vt_bench_copies)), (ht_bench_pages, .inl (cI, 4, .inl x5.2.1)), (ht_pagesOfTrial, .inl (cI, 4, .inl x5.2.2)), (ht_bench, .inr (1, [.ref ht_bench_drops, .ref ht_bench_from, .ref ht_bench_to, .ref ht_bench_tires, .ref ht_bench_copies, .ref ht_bench_pages, .int vt_bench_size]))] H := hP
          have hD : va_D A [(ht, .inr (4, [.ref ht_text, .ref ht_bench, .ref ht_acts, .ref ht_drawers, .ref ht_told, .ref ht_pagesOfTrial, .ref ht_kept, .int vt_spoken, .long vt_nowSeed])), (ht_bench_drops, .inl (cI, 4, .inl vt_bench_drops)), (ht_bench_from, .inl (cI, 4, .inl vt_bench_from)), (ht_bench_to, .inl (cI, 4, .inl vt_bench_to)), (ht_bench_tires, .inl (cI, 4, .inl vt_bench_tires)), (ht_bench_copies, .inl (cI, 4, .inl vt_bench_copies)), (ht_bench_pages, .inl (cI, 4, .inl x5.2.1)), (ht_pagesOfTrial, .inl (cI, 4, .inl x5.2.2)), (ht_bench, .inr (1, [.ref ht_bench_drops, .ref ht_bench_from, .ref ht_bench_to, .ref ht_bench_tires, .ref ht_bench_copies, .ref ht_bench_pages, .int vt_bench_size]))] := hD
          refine lv_iload_n hx hb dX5_lost_120 rfl (lv_at hl 6 rfl) ?_
          obtain ⟨x8, hx8, hf⟩ := dg_bind hf
          have hPc : va_P (dC, dI) vwCl [] H := hP.sub [] rfl
          have hDc : va_D A [] := hD.sub [] (by decide) rfl
          have hFc := va_free (wc := []) hD hS hA [] rfl
          refine va_calli (va_runS (As := [.int z5_47, .int x7, .int a2]) (rest := []) ⟨hx, hb, hml, hown, hts⟩ (k_X5_partOfFraction l dC dI cI cJ cZ H.size z5_47 x7 a2 N x8 hx8) (va_cwS 3 hts gX5_lost_X5_partOfFraction rfl rfl rfl hd_X5_partOfFraction ⟨Nat.le_of_ble_eq_true rfl, Nat.le_of_ble_eq_true rfl⟩) ⟨blind_pc, pre_pc hPc hK hDc⟩ rfl rfl hl.1 rfl (lv_room (Nat.le_of_ble_eq_true rfl)) dX5_lost_121 ⟨Nat.zero_le _, Nat.zero_le _⟩) hS (fun q _ h => hFc q h) hFc (fun r u t H1 locs eth hvm hw hB hz1 hk1 hS => ?_)
          obtain ⟨hP1, hK1, hD1⟩ := hB
          rw [eth] at hP1
          subst hw
          obtain ⟨hP, hD⟩ := va_join (wr := [(ht, .inr (4, [.ref ht_text, .ref ht_bench, .ref ht_acts, .ref ht_drawers, .ref ht_told, .ref ht_pagesOfTrial, .ref ht_kept, .int vt_spoken, .long vt_nowSeed])), (ht_bench_drops, .inl (cI, 4, .inl vt_bench_drops)), (ht_bench_from, .inl (cI, 4, .inl vt_bench_from)), (ht_bench_to, .inl (cI, 4, .inl vt_bench_to)), (ht_bench_tires, .inl (cI, 4, .inl vt_bench_tires)), (ht_bench_copies, .inl (cI, 4, .inl vt_bench_copies)), (ht_bench_pages, .inl (cI, 4, .inl x5.2.1)), (ht_pagesOfTrial, .inl (cI, 4, .inl x5.2.2)), (ht_bench, .inr (1, [.ref ht_bench_drops, .ref ht_bench_from, .ref ht_bench_to, .ref ht_bench_tires, .ref ht_bench_copies, .ref ht_bench_pages, .int vt_bench_size]))]) (w1 := []) hP hD [] [0, 1, 2, 3, 4, 5, 6, 7, 8] rfl rfl (by decide) (by decide) hk1 hFc hP1 hD1
          clear hP1 hK1 hD1 hPc hDc hFc hk1 hz1 hvm eth
          generalize H1 = H at hP hS ⊢
          have hP : va_P (dC, dI) vwCl [(ht, .inr (4, [.ref ht_text, .ref ht_bench, .ref ht_acts, .ref ht_drawers, .ref ht_told, .ref ht_pagesOfTrial, .ref ht_kept, .int vt_spoken, .long vt_nowSeed])), (ht_bench_drops, .inl (cI, 4, .inl vt_bench_drops)), (ht_bench_from, .inl (cI, 4, .inl vt_bench_from)), (ht_bench_to, .inl (cI, 4, .inl vt_bench_to)), (ht_bench_tires, .inl (cI, 4, .inl vt_bench_tires)), (ht_bench_copies, .inl (cI, 4, .inl vt_bench_copies)), (ht_bench_pages, .inl (cI, 4, .inl x5.2.1)), (ht_pagesOfTrial, .inl (cI, 4, .inl x5.2.2)), (ht_bench, .inr (1, [.ref ht_bench_drops, .ref ht_bench_from, .ref ht_bench_to, .ref ht_bench_tires, .ref ht_bench_copies, .ref ht_bench_pages, .int vt_bench_size]))] H := hP
          have hD : va_D A [(ht, .inr (4, [.ref ht_text, .ref ht_bench, .ref ht_acts, .ref ht_drawers, .ref ht_told, .ref ht_pagesOfTrial, .ref ht_kept, .int vt_spoken, .long vt_nowSeed])), (ht_bench_drops, .inl (cI, 4, .inl vt_bench_drops)), (ht_bench_from, .inl (cI, 4, .inl vt_bench_from)), (ht_bench_to, .inl (cI, 4, .inl vt_bench_to)), (ht_bench_tires, .inl (cI, 4, .inl vt_bench_tires)), (ht_bench_copies, .inl (cI, 4, .inl vt_bench_copies)), (ht_bench_pages, .inl (cI, 4, .inl x5.2.1)), (ht_pagesOfTrial, .inl (cI, 4, .inl x5.2.2)), (ht_bench, .inr (1, [.ref ht_bench_drops, .ref ht_bench_from, .ref ht_bench_to, .ref ht_bench_tires, .ref ht_bench_copies, .ref ht_bench_pages, .int vt_bench_size]))] := hD
          have he := Option.some.inj hf
          have hP9 := (hP.sub (ws' := [(ht, .inr (4, [.ref ht_text, .ref ht_bench, .ref ht_acts, .ref ht_drawers, .ref ht_told, .ref ht_pagesOfTrial, .ref ht_kept, .int vt_spoken, .long vt_nowSeed])), (ht_bench, .inr (1, [.ref ht_bench_drops, .ref ht_bench_from, .ref ht_bench_to, .ref ht_bench_tires, .ref ht_bench_copies, .ref ht_bench_pages, .int vt_bench_size])), (ht_bench_drops, .inl (cI, 4, .inl vt_bench_drops)), (ht_bench_from, .inl (cI, 4, .inl vt_bench_from)), (ht_bench_to, .inl (cI, 4, .inl vt_bench_to)), (ht_bench_tires, .inl (cI, 4, .inl vt_bench_tires)), (ht_bench_copies, .inl (cI, 4, .inl vt_bench_copies)), (ht_bench_pages, .inl (cI, 4, .inl x5.2.1)), (ht_pagesOfTrial, .inl (cI, 4, .inl x5.2.2))]) [0, 8, 1, 2, 3, 4, 5, 6, 7] rfl)
          have hD9 := (hD.sub (ws' := [(ht, .inr (4, [.ref ht_text, .ref ht_bench, .ref ht_acts, .ref ht_drawers, .ref ht_told, .ref ht_pagesOfTrial, .ref ht_kept, .int vt_spoken, .long vt_nowSeed])), (ht_bench, .inr (1, [.ref ht_bench_drops, .ref ht_bench_from, .ref ht_bench_to, .ref ht_bench_tires, .ref ht_bench_copies, .ref ht_bench_pages, .int vt_bench_size])), (ht_bench_drops, .inl (cI, 4, .inl vt_bench_drops)), (ht_bench_from, .inl (cI, 4, .inl vt_bench_from)), (ht_bench_to, .inl (cI, 4, .inl vt_bench_to)), (ht_bench_tires, .inl (cI, 4, .inl vt_bench_tires)), (ht_bench_copies, .inl (cI, 4, .inl vt_bench_copies)), (ht_bench_pages, .inl (cI, 4, .inl x5.2.1)), (ht_pagesOfTrial, .inl (cI, 4, .inl x5.2.2))]) [0, 8, 1, 2, 3, 4, 5, 6, 7] (by decide) rfl)
          exact W.iret (v := x8) hx hb hr (fun t eth hW => ⟨⟨x8, (x5.2.1, x5.2.2), rfl, ⟨(congrArg Prod.fst he).symm, (congrArg Prod.snd he).symm⟩, by rw [eth]; exact hP9, va_K.moved hW.alike hK, hD9⟩, hS.F eth⟩) hS.2.2 dX5_lost_124
        have lp47 : ∀ (n47 : Nat) (y5_47 : Int32) (y6_47 : Int32) (H : Heap) (locs : List Loc) (ls : Array Slot), va_P (dC, dI) vwCl [(ht, .inr (4, [.ref ht_text, .ref ht_bench, .ref ht_acts, .ref ht_drawers, .ref ht_told, .ref ht_pagesOfTrial, .ref ht_kept, .int vt_spoken, .long vt_nowSeed])), (ht_bench_drops, .inl (cI, 4, .inl vt_bench_drops)), (ht_bench_from, .inl (cI, 4, .inl vt_bench_from)), (ht_bench_to, .inl (cI, 4, .inl vt_bench_to)), (ht_bench_tires, .inl (cI, 4, .inl vt_bench_tires)), (ht_bench_copies, .inl (cI, 4, .inl vt_bench_copies)), (ht_bench_pages, .inl (cI, 4, .inl x5.2.1)), (ht_pagesOfTrial, .inl (cI, 4, .inl x5.2.2)), (ht_bench, .inr (1, [.ref ht_bench_drops, .ref ht_bench_from, .ref ht_bench_to, .ref ht_bench_tires, .ref ht_bench_copies, .ref ht_bench_pages, .int vt_bench_size]))] H → va_D A [(ht, .inr (4, [.ref ht_text, .ref ht_bench, .ref ht_acts, .ref ht_drawers, .ref ht_told, .ref ht_pagesOfTrial, .ref ht_kept, .int vt_spoken, .long vt_nowSeed])), (ht_bench_drops, .inl (cI, 4, .inl vt_bench_drops)), (ht_bench_from, .inl (cI, 4, .inl vt_bench_from)), (ht_bench_to, .inl (cI, 4, .inl vt_bench_to)), (ht_bench_tires, .inl (cI, 4, .inl vt_bench_tires)), (ht_bench_copies, .inl (cI, 4, .inl vt_bench_copies)), (ht_bench_pages, .inl (cI, 4, .inl x5.2.1)), (ht_pagesOfTrial, .inl (cI, 4, .inl x5.2.2)), (ht_bench, .inr (1, [.ref ht_bench_drops, .ref ht_bench_from, .ref ht_bench_to, .ref ht_bench_tires, .ref ht_bench_copies, .ref ht_bench_pages, .int vt_bench_size]))] → va_S A s.heap H locs → lv_has ls 8 [(6, .int y6_47), (5, .int y5_47), (4, .int x6), (3, .int x5.1), (0, .ref ht), (1, .int a1), (2, .int a2)] → f_X5_lost_47 N a1 vt_bench_size x5 x6 (fun z5_47 z6_47 => (f_X5_power N (10:Int32) vt_bench_size).bind (fun x7 => (f_X5_partOfFraction N z5_47 x7 a2).bind (fun x8 => some (x8, (x5.2.1, x5.2.2))))) n47 y5_47 y6_47 = some R → W p l e (rm_X5_lost) s m ([.ref ht, .int a1, .int a2] : List Value).toArray below meth c H locs 0 0 (MQ below (q_X5_lost dC dI cI cJ cZ ht ht_text ht_bench ht_acts ht_drawers ht_told ht_pagesOfTrial ht_kept ht_bench_drops ht_bench_from ht_bench_to ht_bench_tires ht_bench_copies ht_bench_pages vt_spoken vt_nowSeed vt_bench_size vt_bench_drops vt_bench_from vt_bench_to vt_bench_tires vt_bench_copies R A) ([.ref ht, .int a1, .int a2] : List Value).toArray s 0 0 A) (F0 m 47 ls []) := by
          intro n47
          induction n47 with
          | zero => intro y5_47 y6_47 H locs ls hP hD hS hl hf; rw [f_X5_lost_47] at hf; cases hf
          | succ n47 ih47 =>
            intro y5_47 y6_47 H locs ls hP hD hS hl hf
            rw [f_X5_lost_47] at hf
            refine lv_iload hx hb dX5_lost_47 (lv_at hl 0 rfl) ?_
            refine lv_iload hx hb dX5_lost_49 (lv_at hl 2 rfl) ?_
            refine lv_icmp_gt (tgt := 106) hx hb dX5_lost_51 (by decide) (fun c9 => ?_) (fun c9 => ?_)
            · replace hf := dg_t c9 hf
              exact ex47 y5_47 y6_47 _ _ _ hP hD hS (lv_sub hl [0, 1, 2, 3, 4, 5, 6] rfl) hf
            · replace hf := dg_f c9 hf
              refine lv_aload_n hx hb dX5_lost_54 rfl (lv_at hl 4 rfl) ?_
              refine lv_iload hx hb dX5_lost_55 (lv_at hl 0 rfl) ?_
              refine lv_iload_n hx hb dX5_lost_57 rfl (lv_at hl 3 rfl) ?_
              obtain ⟨x10, hx10, hf⟩ := dg_bind hf
              have hPc : va_P (dC, dI) vwCl [(ht, .inr (4, [.ref ht_text, .ref ht_bench, .ref ht_acts, .ref ht_drawers, .ref ht_told, .ref ht_pagesOfTrial, .ref ht_kept, .int vt_spoken, .long vt_nowSeed])), (ht_bench, .inr (1, [.ref ht_bench_drops, .ref ht_bench_from, .ref ht_bench_to, .ref ht_bench_tires, .ref ht_bench_copies, .ref ht_bench_pages, .int vt_bench_size]))] H := hP.sub [0, 8] rfl
              have hDc : va_D A [(ht, .inr (4, [.ref ht_text, .ref ht_bench, .ref ht_acts, .ref ht_drawers, .ref ht_told, .ref ht_pagesOfTrial, .ref ht_kept, .int vt_spoken, .long vt_nowSeed])), (ht_bench, .inr (1, [.ref ht_bench_drops, .ref ht_bench_from, .ref ht_bench_to, .ref ht_bench_tires, .ref ht_bench_copies, .ref ht_bench_pages, .int vt_bench_size]))] := hD.sub [0, 8] (by decide) rfl
              have hFc := va_free (wc := [(ht, .inr (4, [.ref ht_text, .ref ht_bench, .ref ht_acts, .ref ht_drawers, .ref ht_told, .ref ht_pagesOfTrial, .ref ht_kept, .int vt_spoken, .long vt_nowSeed])), (ht_bench, .inr (1, [.ref ht_bench_drops, .ref ht_bench_from, .ref ht_bench_to, .ref ht_bench_tires, .ref ht_bench_copies, .ref ht_bench_pages, .int vt_bench_size]))]) hD hS hA [0, 8] rfl
              refine va_calli (va_runV (As := [.int y6_47, .int x5.1]) (rest := []) ⟨hx, hb, hml, hown, hts⟩ (k_X5_tellsTrial l dC dI cI cJ cZ H.size ht ht_text ht_bench ht_acts ht_drawers ht_told ht_pagesOfTrial ht_kept ht_bench_drops ht_bench_from ht_bench_to ht_bench_tires ht_bench_copies ht_bench_pages y6_47 x5.1 vt_spoken vt_nowSeed vt_bench_size N x10 hx10) (cwV 2 hts gX5_lost_X5_tellsTrial rfl rfl rfl hd_X5_tellsTrial ⟨Nat.le_of_ble_eq_true rfl, Nat.le_of_ble_eq_true rfl⟩) ⟨blind_pc, va_recv hK hPc (ci := 4) (q0 := 0) rfl rfl, pre_pc hPc hK hDc⟩ rfl rfl hl.1 rfl (lv_room (Nat.le_of_ble_eq_true rfl)) dX5_lost_58 ⟨Nat.zero_le _, Nat.zero_le _⟩) hS (fun q _ h => hFc q h) hFc (fun r u t H1 locs eth hvm hw hB hz1 hk1 hS => ?_)
              obtain ⟨hP1, hK1, hD1⟩ := hB
              rw [eth] at hP1
              subst hw
              obtain ⟨hP, hD⟩ := va_join (wr := [(ht_bench_drops, .inl (cI, 4, .inl vt_bench_drops)), (ht_bench_from, .inl (cI, 4, .inl vt_bench_from)), (ht_bench_to, .inl (cI, 4, .inl vt_bench_to)), (ht_bench_tires, .inl (cI, 4, .inl vt_bench_tires)), (ht_bench_copies, .inl (cI, 4, .inl vt_bench_copies)), (ht_bench_pages, .inl (cI, 4, .inl x5.2.1)), (ht_pagesOfTrial, .inl (cI, 4, .inl x5.2.2))]) (w1 := [(ht, .inr (4, [.ref ht_text, .ref ht_bench, .ref ht_acts, .ref ht_drawers, .ref ht_told, .ref ht_pagesOfTrial, .ref ht_kept, .int vt_spoken, .long vt_nowSeed])), (ht_bench, .inr (1, [.ref ht_bench_drops, .ref ht_bench_from, .ref ht_bench_to, .ref ht_bench_tires, .ref ht_bench_copies, .ref ht_bench_pages, .int vt_bench_size]))]) hP hD [0, 8] [1, 2, 3, 4, 5, 6, 7] rfl rfl (by decide) (by decide) hk1 hFc hP1 hD1
              clear hP1 hK1 hD1 hPc hDc hFc hk1 hz1 hvm eth
              generalize H1 = H at hP hS ⊢
              have hP : va_P (dC, dI) vwCl [(ht_bench_drops, .inl (cI, 4, .inl vt_bench_drops)), (ht_bench_from, .inl (cI, 4, .inl vt_bench_from)), (ht_bench_to, .inl (cI, 4, .inl vt_bench_to)), (ht_bench_tires, .inl (cI, 4, .inl vt_bench_tires)), (ht_bench_copies, .inl (cI, 4, .inl vt_bench_copies)), (ht_bench_pages, .inl (cI, 4, .inl x5.2.1)), (ht_pagesOfTrial, .inl (cI, 4, .inl x5.2.2)), (ht, .inr (4, [.ref ht_text, .ref ht_bench, .ref ht_acts, .ref ht_drawers, .ref ht_told, .ref ht_pagesOfTrial, .ref ht_kept, .int vt_spoken, .long vt_nowSeed])), (ht_bench, .inr (1, [.ref ht_bench_drops, .ref ht_bench_from, .ref ht_bench_to, .ref ht_bench_tires, .ref ht_bench_copies, .ref ht_bench_pages, .int vt_bench_size]))] H := hP
              have hD : va_D A [(ht_bench_drops, .inl (cI, 4, .inl vt_bench_drops)), (ht_bench_from, .inl (cI, 4, .inl vt_bench_from)), (ht_bench_to, .inl (cI, 4, .inl vt_bench_to)), (ht_bench_tires, .inl (cI, 4, .inl vt_bench_tires)), (ht_bench_copies, .inl (cI, 4, .inl vt_bench_copies)), (ht_bench_pages, .inl (cI, 4, .inl x5.2.1)), (ht_pagesOfTrial, .inl (cI, 4, .inl x5.2.2)), (ht, .inr (4, [.ref ht_text, .ref ht_bench, .ref ht_acts, .ref ht_drawers, .ref ht_told, .ref ht_pagesOfTrial, .ref ht_kept, .int vt_spoken, .long vt_nowSeed])), (ht_bench, .inr (1, [.ref ht_bench_drops, .ref ht_bench_from, .ref ht_bench_to, .ref ht_bench_tires, .ref ht_bench_copies, .ref ht_bench_pages, .int vt_bench_size]))] := hD
              refine lv_if_eq (tgt := 100) hx hb dX5_lost_61 (by decide) (fun c11 => ?_) (fun c11 => ?_)
              · replace hf := dg_t c11 hf
                refine lv_iinc (v := (y6_47 + (1:Int32))) (lv' := [(6, .int (y6_47 + (1:Int32))), (5, .int y5_47), (4, .int x6), (3, .int x5.1), (0, .ref ht), (1, .int a1), (2, .int a2)]) hx hb dX5_lost_100 hl (k := 0) rfl (by first | rfl | decide) (by decide) rfl (fun ls hl => ?_)
                refine lv_goto (tgt := 47) hx hb dX5_lost_103 (by decide) ?_
                exact ih47 y5_47 (y6_47 + (1:Int32)) _ _ _ (hP.sub (ws' := [(ht, .inr (4, [.ref ht_text, .ref ht_bench, .ref ht_acts, .ref ht_drawers, .ref ht_told, .ref ht_pagesOfTrial, .ref ht_kept, .int vt_spoken, .long vt_nowSeed])), (ht_bench_drops, .inl (cI, 4, .inl vt_bench_drops)), (ht_bench_from, .inl (cI, 4, .inl vt_bench_from)), (ht_bench_to, .inl (cI, 4, .inl vt_bench_to)), (ht_bench_tires, .inl (cI, 4, .inl vt_bench_tires)), (ht_bench_copies, .inl (cI, 4, .inl vt_bench_copies)), (ht_bench_pages, .inl (cI, 4, .inl x5.2.1)), (ht_pagesOfTrial, .inl (cI, 4, .inl x5.2.2)), (ht_bench, .inr (1, [.ref ht_bench_drops, .ref ht_bench_from, .ref ht_bench_to, .ref ht_bench_tires, .ref ht_bench_copies, .ref ht_bench_pages, .int vt_bench_size]))]) [7, 0, 1, 2, 3, 4, 5, 6, 8] rfl) (hD.sub (ws' := [(ht, .inr (4, [.ref ht_text, .ref ht_bench, .ref ht_acts, .ref ht_drawers, .ref ht_told, .ref ht_pagesOfTrial, .ref ht_kept, .int vt_spoken, .long vt_nowSeed])), (ht_bench_drops, .inl (cI, 4, .inl vt_bench_drops)), (ht_bench_from, .inl (cI, 4, .inl vt_bench_from)), (ht_bench_to, .inl (cI, 4, .inl vt_bench_to)), (ht_bench_tires, .inl (cI, 4, .inl vt_bench_tires)), (ht_bench_copies, .inl (cI, 4, .inl vt_bench_copies)), (ht_bench_pages, .inl (cI, 4, .inl x5.2.1)), (ht_pagesOfTrial, .inl (cI, 4, .inl x5.2.2)), (ht_bench, .inr (1, [.ref ht_bench_drops, .ref ht_bench_from, .ref ht_bench_to, .ref ht_bench_tires, .ref ht_bench_copies, .ref ht_bench_pages, .int vt_bench_size]))]) [7, 0, 1, 2, 3, 4, 5, 6, 8] (by decide) rfl) hS (lv_sub hl [0, 1, 2, 3, 4, 5, 6] rfl) hf
              · replace hf := dg_f c11 hf
                refine lv_iload hx hb dX5_lost_64 (lv_at hl 0 rfl) ?_
                obtain ⟨x12, hx12, hf⟩ := dg_bind hf
                have hPc : va_P (dC, dI) vwCl [] H := hP.sub [] rfl
                have hDc : va_D A [] := hD.sub [] (by decide) rfl
                have hFc := va_free (wc := []) hD hS hA [] rfl
                refine va_calli (va_runS (As := [.int y6_47]) (rest := []) ⟨hx, hb, hml, hown, hts⟩ (k_J6_bitCount_0f7a4 l dC dI cI cJ cZ H.size y6_47 N x12 hx12) (va_cwS 1 hts gX5_lost_J6_bitCount_0f7a4 rfl rfl rfl hd_J6_bitCount_0f7a4 ⟨Nat.le_of_ble_eq_true rfl, Nat.le_of_ble_eq_true rfl⟩) ⟨blind_pc, pre_pc hPc hK hDc⟩ rfl rfl hl.1 rfl (lv_room (Nat.le_of_ble_eq_true rfl)) dX5_lost_66 ⟨Nat.zero_le _, Nat.zero_le _⟩) hS (fun q _ h => hFc q h) hFc (fun r u t H1 locs eth hvm hw hB hz1 hk1 hS => ?_)
                obtain ⟨hP1, hK1, hD1⟩ := hB
                rw [eth] at hP1
                subst hw
                obtain ⟨hP, hD⟩ := va_join (wr := [(ht_bench_drops, .inl (cI, 4, .inl vt_bench_drops)), (ht_bench_from, .inl (cI, 4, .inl vt_bench_from)), (ht_bench_to, .inl (cI, 4, .inl vt_bench_to)), (ht_bench_tires, .inl (cI, 4, .inl vt_bench_tires)), (ht_bench_copies, .inl (cI, 4, .inl vt_bench_copies)), (ht_bench_pages, .inl (cI, 4, .inl x5.2.1)), (ht_pagesOfTrial, .inl (cI, 4, .inl x5.2.2)), (ht, .inr (4, [.ref ht_text, .ref ht_bench, .ref ht_acts, .ref ht_drawers, .ref ht_told, .ref ht_pagesOfTrial, .ref ht_kept, .int vt_spoken, .long vt_nowSeed])), (ht_bench, .inr (1, [.ref ht_bench_drops, .ref ht_bench_from, .ref ht_bench_to, .ref ht_bench_tires, .ref ht_bench_copies, .ref ht_bench_pages, .int vt_bench_size]))]) (w1 := []) hP hD [] [0, 1, 2, 3, 4, 5, 6, 7, 8] rfl rfl (by decide) (by decide) hk1 hFc hP1 hD1
                clear hP1 hK1 hD1 hPc hDc hFc hk1 hz1 hvm eth
                generalize H1 = H at hP hS ⊢
                have hP : va_P (dC, dI) vwCl [(ht_bench_drops, .inl (cI, 4, .inl vt_bench_drops)), (ht_bench_from, .inl (cI, 4, .inl vt_bench_from)), (ht_bench_to, .inl (cI, 4, .inl vt_bench_to)), (ht_bench_tires, .inl (cI, 4, .inl vt_bench_tires)), (ht_bench_copies, .inl (cI, 4, .inl vt_bench_copies)), (ht_bench_pages, .inl (cI, 4, .inl x5.2.1)), (ht_pagesOfTrial, .inl (cI, 4, .inl x5.2.2)), (ht, .inr (4, [.ref ht_text, .ref ht_bench, .ref ht_acts, .ref ht_drawers, .ref ht_told, .ref ht_pagesOfTrial, .ref ht_kept, .int vt_spoken, .long vt_nowSeed])), (ht_bench, .inr (1, [.ref ht_bench_drops, .ref ht_bench_from, .ref ht_bench_to, .ref ht_bench_tires, .ref ht_bench_copies, .ref ht_bench_pages, .int vt_bench_size]))] H := hP
                have hD : va_D A [(ht_bench_drops, .inl (cI, 4, .inl vt_bench_drops)), (ht_bench_from, .inl (cI, 4, .inl vt_bench_from)), (ht_bench_to, .inl (cI, 4, .inl vt_bench_to)), (ht_bench_tires, .inl (cI, 4, .inl vt_bench_tires)), (ht_bench_copies, .inl (cI, 4, .inl vt_bench_copies)), (ht_bench_pages, .inl (cI, 4, .inl x5.2.1)), (ht_pagesOfTrial, .inl (cI, 4, .inl x5.2.2)), (ht, .inr (4, [.ref ht_text, .ref ht_bench, .ref ht_acts, .ref ht_drawers, .ref ht_told, .ref ht_pagesOfTrial, .ref ht_kept, .int vt_spoken, .long vt_nowSeed])), (ht_bench, .inr (1, [.ref ht_bench_drops, .ref ht_bench_from, .ref ht_bench_to, .ref ht_bench_tires, .ref ht_bench_copies, .ref ht_bench_pages, .int vt_bench_size]))] := hD
                refine lv_istore (lv' := [(7, .int x12), (6, .int y6_47), (5, .int y5_47), (4, .int x6), (3, .int x5.1), (0, .ref ht), (1, .int a1), (2, .int a2)]) hx hb dX5_lost_69 hl (by decide) rfl (fun ls hl => ?_)
                refine lv_iload hx hb dX5_lost_71 (lv_at hl 2 rfl) ?_
                refine lv_bipush (v := 10) hx hb dX5_lost_73 (by decide) ?_
                refine lv_iload_n hx hb dX5_lost_75 rfl (lv_at hl 6 rfl) ?_
                refine lv_isub hx hb dX5_lost_76 ?_
                refine lv_iload hx hb dX5_lost_77 (lv_at hl 0 rfl) ?_
                obtain ⟨x13, hx13, hf⟩ := dg_bind hf
                have hPc : va_P (dC, dI) vwCl [] H := hP.sub [] rfl
                have hDc : va_D A [] := hD.sub [] (by decide) rfl
                have hFc := va_free (wc := []) hD hS hA [] rfl
                refine va_calli (va_runS (As := [.int ((10:Int32) - a1), .int x12]) (rest := [.int y5_47]) ⟨hx, hb, hml, hown, hts⟩ (k_X5_power l dC dI cI cJ cZ H.size ((10:Int32) - a1) x12 N x13 hx13) (va_cwS 2 hts gX5_lost_X5_power rfl rfl rfl hd_X5_power ⟨Nat.le_of_ble_eq_true rfl, Nat.le_of_ble_eq_true rfl⟩) ⟨blind_pc, pre_pc hPc hK hDc⟩ rfl rfl hl.1 rfl (lv_room (Nat.le_of_ble_eq_true rfl)) dX5_lost_79 ⟨Nat.zero_le _, Nat.zero_le _⟩) hS (fun q _ h => hFc q h) hFc (fun r u t H1 locs eth hvm hw hB hz1 hk1 hS => ?_)
                obtain ⟨hP1, hK1, hD1⟩ := hB
                rw [eth] at hP1
                subst hw
                obtain ⟨hP, hD⟩ := va_join (wr := [(ht_bench_drops, .inl (cI, 4, .inl vt_bench_drops)), (ht_bench_from, .inl (cI, 4, .inl vt_bench_from)), (ht_bench_to, .inl (cI, 4, .inl vt_bench_to)), (ht_bench_tires, .inl (cI, 4, .inl vt_bench_tires)), (ht_bench_copies, .inl (cI, 4, .inl vt_bench_copies)), (ht_bench_pages, .inl (cI, 4, .inl x5.2.1)), (ht_pagesOfTrial, .inl (cI, 4, .inl x5.2.2)), (ht, .inr (4, [.ref ht_text, .ref ht_bench, .ref ht_acts, .ref ht_drawers, .ref ht_told, .ref ht_pagesOfTrial, .ref ht_kept, .int vt_spoken, .long vt_nowSeed])), (ht_bench, .inr (1, [.ref ht_bench_drops, .ref ht_bench_from, .ref ht_bench_to, .ref ht_bench_tires, .ref ht_bench_copies, .ref ht_bench_pages, .int vt_bench_size]))]) (w1 := []) hP hD [] [0, 1, 2, 3, 4, 5, 6, 7, 8] rfl rfl (by decide) (by decide) hk1 hFc hP1 hD1
                clear hP1 hK1 hD1 hPc hDc hFc hk1 hz1 hvm eth
                generalize H1 = H at hP hS ⊢
                have hP : va_P (dC, dI) vwCl [(ht_bench_drops, .inl (cI, 4, .inl vt_bench_drops)), (ht_bench_from, .inl (cI, 4, .inl vt_bench_from)), (ht_bench_to, .inl (cI, 4, .inl vt_bench_to)), (ht_bench_tires, .inl (cI, 4, .inl vt_bench_tires)), (ht_bench_copies, .inl (cI, 4, .inl vt_bench_copies)), (ht_bench_pages, .inl (cI, 4, .inl x5.2.1)), (ht_pagesOfTrial, .inl (cI, 4, .inl x5.2.2)), (ht, .inr (4, [.ref ht_text, .ref ht_bench, .ref ht_acts, .ref ht_drawers, .ref ht_told, .ref ht_pagesOfTrial, .ref ht_kept, .int vt_spoken, .long vt_nowSeed])), (ht_bench, .inr (1, [.ref ht_bench_drops, .ref ht_bench_from, .ref ht_bench_to, .ref ht_bench_tires, .ref ht_bench_copies, .ref ht_bench_pages, .int vt_bench_size]))] H := hP
                have hD : va_D A [(ht_bench_drops, .inl (cI, 4, .inl vt_bench_drops)), (ht_bench_from, .inl (cI, 4, .inl vt_bench_from)), (ht_bench_to, .inl (cI, 4, .inl vt_bench_to)), (ht_bench_tires, .inl (cI, 4, .inl vt_bench_tires)), (ht_bench_copies, .inl (cI, 4, .inl vt_bench_copies)), (ht_bench_pages, .inl (cI, 4, .inl x5.2.1)), (ht_pagesOfTrial, .inl (cI, 4, .inl x5.2.2)), (ht, .inr (4, [.ref ht_text, .ref ht_bench, .ref ht_acts, .ref ht_drawers, .ref ht_told, .ref ht_pagesOfTrial, .ref ht_kept, .int vt_spoken, .long vt_nowSeed])), (ht_bench, .inr (1, [.ref ht_bench_drops, .ref ht_bench_from, .ref ht_bench_to, .ref ht_bench_tires, .ref ht_bench_copies, .ref ht_bench_pages, .int vt_bench_size]))] := hD
                refine lv_iload_n hx hb dX5_lost_82 rfl (lv_at hl 6 rfl) ?_
                refine lv_aload_n hx hb dX5_lost_83 rfl (lv_at hl 5 rfl) ?_
                refine va_get (D := (dC, dI)) (ci := 4) (v := .ref ht_bench) (C := RX5) (T := TX5) (N := 9) hx hb hts hinX5 hown hK hP 7 rfl rfl 1 (by decide) hw1 (fun _ h9 => h9) rfl dX5_lost_84 ?_
                refine va_get (D := (dC, dI)) (ci := 1) (v := .int vt_bench_size) (C := RX1) (T := TX1) (N := 7) hx hb hts hinX1 hown hK hP 8 rfl rfl 6 (by decide) hw2 (fun _ h9 => h9) rfl dX5_lost_87 ?_
                refine lv_iload hx hb dX5_lost_90 (lv_at hl 0 rfl) ?_
                refine lv_isub hx hb dX5_lost_92 ?_
                obtain ⟨x14, hx14, hf⟩ := dg_bind hf
                have hPc : va_P (dC, dI) vwCl [] H := hP.sub [] rfl
                have hDc : va_D A [] := hD.sub [] (by decide) rfl
                have hFc := va_free (wc := []) hD hS hA [] rfl
                refine va_calli (va_runS (As := [.int a1, .int (vt_bench_size - x12)]) (rest := [.int x13, .int y5_47]) ⟨hx, hb, hml, hown, hts⟩ (k_X5_power l dC dI cI cJ cZ H.size a1 (vt_bench_size - x12) N x14 hx14) (va_cwS 2 hts gX5_lost_X5_power rfl rfl rfl hd_X5_power ⟨Nat.le_of_ble_eq_true rfl, Nat.le_of_ble_eq_true rfl⟩) ⟨blind_pc, pre_pc hPc hK hDc⟩ rfl rfl hl.1 rfl (lv_room (Nat.le_of_ble_eq_true rfl)) dX5_lost_93 ⟨Nat.zero_le _, Nat.zero_le _⟩) hS (fun q _ h => hFc q h) hFc (fun r u t H1 locs eth hvm hw hB hz1 hk1 hS => ?_)
                obtain ⟨hP1, hK1, hD1⟩ := hB
                rw [eth] at hP1
                subst hw
                obtain ⟨hP, hD⟩ := va_join (wr := [(ht_bench_drops, .inl (cI, 4, .inl vt_bench_drops)), (ht_bench_from, .inl (cI, 4, .inl vt_bench_from)), (ht_bench_to, .inl (cI, 4, .inl vt_bench_to)), (ht_bench_tires, .inl (cI, 4, .inl vt_bench_tires)), (ht_bench_copies, .inl (cI, 4, .inl vt_bench_copies)), (ht_bench_pages, .inl (cI, 4, .inl x5.2.1)), (ht_pagesOfTrial, .inl (cI, 4, .inl x5.2.2)), (ht, .inr (4, [.ref ht_text, .ref ht_bench, .ref ht_acts, .ref ht_drawers, .ref ht_told, .ref ht_pagesOfTrial, .ref ht_kept, .int vt_spoken, .long vt_nowSeed])), (ht_bench, .inr (1, [.ref ht_bench_drops, .ref ht_bench_from, .ref ht_bench_to, .ref ht_bench_tires, .ref ht_bench_copies, .ref ht_bench_pages, .int vt_bench_size]))]) (w1 := []) hP hD [] [0, 1, 2, 3, 4, 5, 6, 7, 8] rfl rfl (by decide) (by decide) hk1 hFc hP1 hD1
                clear hP1 hK1 hD1 hPc hDc hFc hk1 hz1 hvm eth
                generalize H1 = H at hP hS ⊢
                have hP : va_P (dC, dI) vwCl [(ht_bench_drops, .inl (cI, 4, .inl vt_bench_drops)), (ht_bench_from, .inl (cI, 4, .inl vt_bench_from)), (ht_bench_to, .inl (cI, 4, .inl vt_bench_to)), (ht_bench_tires, .inl (cI, 4, .inl vt_bench_tires)), (ht_bench_copies, .inl (cI, 4, .inl vt_bench_copies)), (ht_bench_pages, .inl (cI, 4, .inl x5.2.1)), (ht_pagesOfTrial, .inl (cI, 4, .inl x5.2.2)), (ht, .inr (4, [.ref ht_text, .ref ht_bench, .ref ht_acts, .ref ht_drawers, .ref ht_told, .ref ht_pagesOfTrial, .ref ht_kept, .int vt_spoken, .long vt_nowSeed])), (ht_bench, .inr (1, [.ref ht_bench_drops, .ref ht_bench_from, .ref ht_bench_to, .ref ht_bench_tires, .ref ht_bench_copies, .ref ht_bench_pages, .int vt_bench_size]))] H := hP
                have hD : va_D A [(ht_bench_drops, .inl (cI, 4, .inl vt_bench_drops)), (ht_bench_from, .inl (cI, 4, .inl vt_bench_from)), (ht_bench_to, .inl (cI, 4, .inl vt_bench_to)), (ht_bench_tires, .inl (cI, 4, .inl vt_bench_tires)), (ht_bench_copies, .inl (cI, 4, .inl vt_bench_copies)), (ht_bench_pages, .inl (cI, 4, .inl x5.2.1)), (ht_pagesOfTrial, .inl (cI, 4, .inl x5.2.2)), (ht, .inr (4, [.ref ht_text, .ref ht_bench, .ref ht_acts, .ref ht_drawers, .ref ht_told, .ref ht_pagesOfTrial, .ref ht_kept, .int vt_spoken, .long vt_nowSeed])), (ht_bench, .inr (1, [.ref ht_bench_drops, .ref ht_bench_from, .ref ht_bench_to, .ref ht_bench_tires, .ref ht_bench_copies, .ref ht_bench_pages, .int vt_bench_size]))] := hD
                refine lv_imul hx hb dX5_lost_96 ?_
                refine lv_iadd hx hb dX5_lost_97 ?_
                refine lv_istore (lv' := [(5, .int (y5_47 + (x13 * x14))), (7, .int x12), (6, .int y6_47), (4, .int x6), (3, .int x5.1), (0, .ref ht), (1, .int a1), (2, .int a2)]) hx hb dX5_lost_98 hl (by decide) rfl (fun ls hl => ?_)
                refine lv_iinc (v := (y6_47 + (1:Int32))) (lv' := [(6, .int (y6_47 + (1:Int32))), (5, .int (y5_47 + (x13 * x14))), (7, .int x12), (4, .int x6), (3, .int x5.1), (0, .ref ht), (1, .int a1), (2, .int a2)]) hx hb dX5_lost_100 hl (k := 2) rfl (by first | rfl | decide) (by decide) rfl (fun ls hl => ?_)
                refine lv_goto (tgt := 47) hx hb dX5_lost_103 (by decide) ?_
                exact ih47 (y5_47 + (x13 * x14)) (y6_47 + (1:Int32)) _ _ _ (hP.sub (ws' := [(ht, .inr (4, [.ref ht_text, .ref ht_bench, .ref ht_acts, .ref ht_drawers, .ref ht_told, .ref ht_pagesOfTrial, .ref ht_kept, .int vt_spoken, .long vt_nowSeed])), (ht_bench_drops, .inl (cI, 4, .inl vt_bench_drops)), (ht_bench_from, .inl (cI, 4, .inl vt_bench_from)), (ht_bench_to, .inl (cI, 4, .inl vt_bench_to)), (ht_bench_tires, .inl (cI, 4, .inl vt_bench_tires)), (ht_bench_copies, .inl (cI, 4, .inl vt_bench_copies)), (ht_bench_pages, .inl (cI, 4, .inl x5.2.1)), (ht_pagesOfTrial, .inl (cI, 4, .inl x5.2.2)), (ht_bench, .inr (1, [.ref ht_bench_drops, .ref ht_bench_from, .ref ht_bench_to, .ref ht_bench_tires, .ref ht_bench_copies, .ref ht_bench_pages, .int vt_bench_size]))]) [7, 0, 1, 2, 3, 4, 5, 6, 8] rfl) (hD.sub (ws' := [(ht, .inr (4, [.ref ht_text, .ref ht_bench, .ref ht_acts, .ref ht_drawers, .ref ht_told, .ref ht_pagesOfTrial, .ref ht_kept, .int vt_spoken, .long vt_nowSeed])), (ht_bench_drops, .inl (cI, 4, .inl vt_bench_drops)), (ht_bench_from, .inl (cI, 4, .inl vt_bench_from)), (ht_bench_to, .inl (cI, 4, .inl vt_bench_to)), (ht_bench_tires, .inl (cI, 4, .inl vt_bench_tires)), (ht_bench_copies, .inl (cI, 4, .inl vt_bench_copies)), (ht_bench_pages, .inl (cI, 4, .inl x5.2.1)), (ht_pagesOfTrial, .inl (cI, 4, .inl x5.2.2)), (ht_bench, .inr (1, [.ref ht_bench_drops, .ref ht_bench_from, .ref ht_bench_to, .ref ht_bench_tires, .ref ht_bench_copies, .ref ht_bench_pages, .int vt_bench_size]))]) [7, 0, 1, 2, 3, 4, 5, 6, 8] (by decide) rfl) hS (lv_sub hl [0, 1, 3, 4, 5, 6, 7] rfl) hf
        exact lp47 N (0:Int32) (0:Int32) _ _ _ hP hD hS hl hf
      · replace hf := dg_f c4 hf
        refine lv_bipush (v := -3) hx hb dX5_lost_24 (by decide) ?_
        have he := Option.some.inj hf
        have hP9 := hP
        have hD9 := hD
        exact W.iret (v := (-3:Int32)) hx hb hr (fun t eth hW => ⟨⟨(-3:Int32), (vt_bench_pages, vt_pagesOfTrial), rfl, ⟨(congrArg Prod.fst he).symm, (congrArg Prod.snd he).symm⟩, by rw [eth]; exact hP9, va_K.moved hW.alike hK, hD9⟩, hS.F eth⟩) hS.2.2 dX5_lost_26
    · replace hf := dg_f c2 hf
      refine lv_bipush (v := -2) hx hb dX5_lost_10 (by decide) ?_
      have he := Option.some.inj hf
      have hP9 := hP
      have hD9 := hD
      exact W.iret (v := (-2:Int32)) hx hb hr (fun t eth hW => ⟨⟨(-2:Int32), (vt_bench_pages, vt_pagesOfTrial), rfl, ⟨(congrArg Prod.fst he).symm, (congrArg Prod.snd he).symm⟩, by rw [eth]; exact hP9, va_K.moved hW.alike hK, hD9⟩, hS.F eth⟩) hS.2.2 dX5_lost_12
theorem hd_X5_seed : yX5_seed.cls = RX5 ∧ yX5_seed.cls ≠ "java/lang/invoke/MethodHandle" ∧ yX5_seed.cls ≠ "java/lang/invoke/VarHandle" ∧ (parseMethodDescriptor yX5_seed.desc).map (fun d => d.parameters.length) = some 1 := by decide +kernel
abbrev rm_X5_seed : Room := { frames := 0, cells := 0, slots := 0, locals := 0 }
abbrev q_X5_seed (dC : Nat → ClassId) (dI : Nat → Nat → Nat) (cI cJ cZ : ClassId) (ht ht_text ht_bench ht_acts ht_drawers ht_told ht_pagesOfTrial ht_kept : Nat) (vt_spoken : Int32) (R : Int64 × Int64) (A : Nat → Prop) : Array Value → State → Outcome → State → Prop := va_Ql (fun (r : Int64) (u : Int64) => R.1 = r ∧ R.2 = u) (fun (u : Int64) (t : State) => va_P (dC, dI) vwCl [(ht, .inr (4, [.ref ht_text, .ref ht_bench, .ref ht_acts, .ref ht_drawers, .ref ht_told, .ref ht_pagesOfTrial, .ref ht_kept, .int vt_spoken, .long u]))] t.heap ∧ va_K (dC, dI) vwCl [(cI, .int), (cJ, .long), (cZ, .boolean)] t ∧ va_D A [(ht, .inr (4, [.ref ht_text, .ref ht_bench, .ref ht_acts, .ref ht_drawers, .ref ht_told, .ref ht_pagesOfTrial, .ref ht_kept, .int vt_spoken, .long u]))]) A
set_option maxHeartbeats 4000000 in
set_option maxRecDepth 100000 in
theorem k_X5_seed (l : Launch) (dC : Nat → ClassId) (dI : Nat → Nat → Nat) (cI cJ cZ : ClassId) (sz : Nat) (ht ht_text ht_bench ht_acts ht_drawers ht_told ht_pagesOfTrial ht_kept : Nat) (a1 : Int64) (vt_spoken : Int32) (vt_nowSeed : Int64) (N : Nat) (R : Int64 × Int64) (hf : f_X5_seed N a1 vt_nowSeed = some R) : Met l yX5_seed wsX5_seed (rm_X5_seed) (va_Pc [.ref ht, .long a1] (fun U => U.heap.size = sz ∧ va_P (dC, dI) vwCl [(ht, .inr (4, [.ref ht_text, .ref ht_bench, .ref ht_acts, .ref ht_drawers, .ref ht_told, .ref ht_pagesOfTrial, .ref ht_kept, .int vt_spoken, .long vt_nowSeed]))] U.heap ∧ va_K (dC, dI) vwCl [(cI, .int), (cJ, .long), (cZ, .boolean)] U ∧ va_D (fun _ => True) [(ht, .inr (4, [.ref ht_text, .ref ht_bench, .ref ht_acts, .ref ht_drawers, .ref ht_told, .ref ht_pagesOfTrial, .ref ht_kept, .int vt_spoken, .long vt_nowSeed]))])) (q_X5_seed dC dI cI cJ cZ ht ht_text ht_bench ht_acts ht_drawers ht_told ht_pagesOfTrial ht_kept vt_spoken R (va_A [(ht, .inr (4, [.ref ht_text, .ref ht_bench, .ref ht_acts, .ref ht_drawers, .ref ht_told, .ref ht_pagesOfTrial, .ref ht_kept, .int vt_spoken, .long vt_nowSeed]))] sz)) 0 0 (va_A [(ht, .inr (4, [.ref ht_text, .ref ht_bench, .ref ht_acts, .ref ht_drawers, .ref ht_told, .ref ht_pagesOfTrial, .ref ht_kept, .int vt_spoken, .long vt_nowSeed]))] sz) := by
  refine Met.ofW (cc := cX5_seed) (maxL := 5) (ret := (some .long)) (by decide) rfl ?_
  intro p e s m args below meth c s₁ B hml hv
  obtain ⟨rfl, hsz, hP, hK, hD0⟩ := hv
  have hx := B.exec
  have hb := B.bytes
  have hr := B.returns
  have hts := atoms_spec (ws := wsX5_seed) B.pre
  have hown : s.vm.findClass RX5 = some m.cls := findClass_of_methodNamed B.named
  have hlocks := B.notSynchronized
  clear B
  subst hsz
  have hw0 := hts (.fieldLink RX5 54 "ShorthandCourt" "nowSeed" "J") (by decide +kernel)
  have hinX5 : ∀ w ∈ u_ws RX5 TX5 9, w ∈ wsX5_seed := by decide +kernel
  have hD := hD0.self (sz := s.heap.size)
  clear hD0
  generalize hAe : va_A [(ht, .inr (4, [.ref ht_text, .ref ht_bench, .ref ht_acts, .ref ht_drawers, .ref ht_told, .ref ht_pagesOfTrial, .ref ht_kept, .int vt_spoken, .long vt_nowSeed]))] s.heap.size = A at hD ⊢
  have hA : ∀ q : Nat, s.heap.size ≤ q → A q := fun q h => by rw [← hAe]; exact Or.inr h
  clear hAe
  have hS : va_S A s.heap s.heap [] := va_S.rf
  have hl := lv_entry ([.ref ht, .long a1]) (n := 5) (Nat.le_of_ble_eq_true rfl)
  rw [lg_entry_eq]
  generalize (lg_sl ([.ref ht, .long a1]) ++ List.replicate (5 - (lg_sl ([.ref ht, .long a1])).length) Slot.unset).toArray = ls at hl ⊢
  have hl : lv_has ls 5 [(0, .ref ht), (1, .long a1)] := hl
  unfold f_X5_seed at hf
  refine lv_aload_n hx hb dX5_seed_0 rfl (lv_at hl 0 rfl) ?_
  refine va_get (D := (dC, dI)) (ci := 4) (v := .long vt_nowSeed) (C := RX5) (T := TX5) (N := 9) hx hb hts hinX5 hown hK hP 0 rfl rfl 8 (by decide) hw0 (fun _ h9 => h9) rfl dX5_seed_1 ?_
  refine lv_lstore_n (lv' := [(3, .long vt_nowSeed), (0, .ref ht), (1, .long a1)]) hx hb dX5_seed_4 rfl hl (by decide) rfl (fun ls hl => ?_)
  refine lv_aload_n hx hb dX5_seed_5 rfl (lv_at hl 1 rfl) ?_
  refine lv_lload_n hx hb dX5_seed_6 rfl (lv_at hl 2 rfl) ?_
  refine va_put (D := (dC, dI)) (ci := 4) (v := .long a1) (ty := .long) (C := RX5) (T := TX5) (N := 9) hx hb hts hinX5 tyX5 tyX5_ok nmX5 hown hK hP hD hS 0 rfl rfl 8 (by decide) hw0 (fun _ h9 => h9) rfl (by decide +kernel) rfl rfl (Nat.le_of_ble_eq_true rfl) dX5_seed_7 (fun H locs hP hD hS => ?_)
  have hP : va_P (dC, dI) vwCl [(ht, .inr (4, [.ref ht_text, .ref ht_bench, .ref ht_acts, .ref ht_drawers, .ref ht_told, .ref ht_pagesOfTrial, .ref ht_kept, .int vt_spoken, .long a1]))] H := hP
  have hD : va_D A [(ht, .inr (4, [.ref ht_text, .ref ht_bench, .ref ht_acts, .ref ht_drawers, .ref ht_told, .ref ht_pagesOfTrial, .ref ht_kept, .int vt_spoken, .long a1]))] := hD
  refine lv_lload_n hx hb dX5_seed_10 rfl (lv_at hl 0 rfl) ?_
  have he := Option.some.inj hf
  have hP9 := hP
  have hD9 := hD
  exact W.lret (v := vt_nowSeed) hx hb hr (fun t eth hW => ⟨⟨vt_nowSeed, a1, rfl, ⟨(congrArg Prod.fst he).symm, (congrArg Prod.snd he).symm⟩, by rw [eth]; exact hP9, va_K.moved hW.alike hK, hD9⟩, hS.F eth⟩) hS.2.2 dX5_seed_11
theorem hd_X5_trialBySeed : yX5_trialBySeed.cls = RX5 ∧ yX5_trialBySeed.cls ≠ "java/lang/invoke/MethodHandle" ∧ yX5_trialBySeed.cls ≠ "java/lang/invoke/VarHandle" ∧ (parseMethodDescriptor yX5_trialBySeed.desc).map (fun d => d.parameters.length) = some 1 := by decide +kernel
abbrev rm_X5_trialBySeed : Room := { frames := 1, cells := 0, slots := 0, locals := 21 }
abbrev q_X5_trialBySeed (dC : Nat → ClassId) (dI : Nat → Nat → Nat) (cI cJ cZ : ClassId) (ht ht_text ht_bench ht_acts ht_drawers ht_told ht_pagesOfTrial ht_kept : Nat) (vt_spoken : Int32) (R : Int32 × Int64) (A : Nat → Prop) : Array Value → State → Outcome → State → Prop := va_Qi (fun (r : Int32) (u : Int64) => R.1 = r ∧ R.2 = u) (fun (u : Int64) (t : State) => va_P (dC, dI) vwCl [(ht, .inr (4, [.ref ht_text, .ref ht_bench, .ref ht_acts, .ref ht_drawers, .ref ht_told, .ref ht_pagesOfTrial, .ref ht_kept, .int vt_spoken, .long u]))] t.heap ∧ va_K (dC, dI) vwCl [(cI, .int), (cJ, .long), (cZ, .boolean)] t ∧ va_D A [(ht, .inr (4, [.ref ht_text, .ref ht_bench, .ref ht_acts, .ref ht_drawers, .ref ht_told, .ref ht_pagesOfTrial, .ref ht_kept, .int vt_spoken, .long u]))]) A
set_option maxHeartbeats 4000000 in
set_option maxRecDepth 100000 in
theorem k_X5_trialBySeed (l : Launch) (dC : Nat → ClassId) (dI : Nat → Nat → Nat) (cI cJ cZ : ClassId) (sz : Nat) (ht ht_text ht_bench ht_acts ht_drawers ht_told ht_pagesOfTrial ht_kept : Nat) (a1 : Int32) (vt_spoken : Int32) (vt_nowSeed : Int64) (N : Nat) (R : Int32 × Int64) (hf : f_X5_trialBySeed N a1 vt_nowSeed = some R) : Met l yX5_trialBySeed wsX5_trialBySeed (rm_X5_trialBySeed) (va_Pc [.ref ht, .int a1] (fun U => U.heap.size = sz ∧ va_P (dC, dI) vwCl [(ht, .inr (4, [.ref ht_text, .ref ht_bench, .ref ht_acts, .ref ht_drawers, .ref ht_told, .ref ht_pagesOfTrial, .ref ht_kept, .int vt_spoken, .long vt_nowSeed]))] U.heap ∧ va_K (dC, dI) vwCl [(cI, .int), (cJ, .long), (cZ, .boolean)] U ∧ va_D (fun _ => True) [(ht, .inr (4, [.ref ht_text, .ref ht_bench, .ref ht_acts, .ref ht_drawers, .ref ht_told, .ref ht_pagesOfTrial, .ref ht_kept, .int vt_spoken, .long vt_nowSeed]))])) (q_X5_trialBySeed dC dI cI cJ cZ ht ht_text ht_bench ht_acts ht_drawers ht_told ht_pagesOfTrial ht_kept vt_spoken R (va_A [(ht, .inr (4, [.ref ht_text, .ref ht_bench, .ref ht_acts, .ref ht_drawers, .ref ht_told, .ref ht_pagesOfTrial, .ref ht_kept, .int vt_spoken, .long vt_nowSeed]))] sz)) 0 0 (va_A [(ht, .inr (4, [.ref ht_text, .ref ht_bench, .ref ht_acts, .ref ht_drawers, .ref ht_told, .ref ht_pagesOfTrial, .ref ht_kept, .int vt_spoken, .long vt_nowSeed]))] sz) := by
  refine Met.ofW (cc := cX5_trialBySeed) (maxL := 4) (ret := (some .int)) (by decide) rfl ?_
  intro p e s m args below meth c s₁ B hml hv
  obtain ⟨rfl, hsz, hP, hK, hD0⟩ := hv
  have hx := B.exec
  have hb := B.bytes
  have hr := B.returns
  have hts := atoms_spec (ws := wsX5_trialBySeed) B.pre
  have hown : s.vm.findClass RX5 = some m.cls := findClass_of_methodNamed B.named
  have hlocks := B.notSynchronized
  clear B
  subst hsz
  have hw0 := hts (.fieldLink RX5 54 "ShorthandCourt" "nowSeed" "J") (by decide +kernel)
  have hw1 := hts (.constantLong RX5 287 (6364136223846793005)) (by decide +kernel)
  have hw2 := hts (.constantLong RX5 289 (1442695040888963407)) (by decide +kernel)
  have hinX5 : ∀ w ∈ u_ws RX5 TX5 9, w ∈ wsX5_trialBySeed := by decide +kernel
  have hD := hD0.self (sz := s.heap.size)
  clear hD0
  generalize hAe : va_A [(ht, .inr (4, [.ref ht_text, .ref ht_bench, .ref ht_acts, .ref ht_drawers, .ref ht_told, .ref ht_pagesOfTrial, .ref ht_kept, .int vt_spoken, .long vt_nowSeed]))] s.heap.size = A at hD ⊢
  have hA : ∀ q : Nat, s.heap.size ≤ q → A q := fun q h => by rw [← hAe]; exact Or.inr h
  clear hAe
  have hS : va_S A s.heap s.heap [] := va_S.rf
  have hl := lv_entry ([.ref ht, .int a1]) (n := 4) (Nat.le_of_ble_eq_true rfl)
  rw [lg_entry_eq]
  generalize (lg_sl ([.ref ht, .int a1]) ++ List.replicate (4 - (lg_sl ([.ref ht, .int a1])).length) Slot.unset).toArray = ls at hl ⊢
  have hl : lv_has ls 4 [(0, .ref ht), (1, .int a1)] := hl
  unfold f_X5_trialBySeed at hf
  refine lv_iconst (v := 1) hx hb dX5_trialBySeed_0 (by decide) ?_
  refine lv_istore_n (lv' := [(2, .int (1:Int32)), (0, .ref ht), (1, .int a1)]) hx hb dX5_trialBySeed_1 rfl hl (by decide) rfl (fun ls hl => ?_)
  refine lv_iconst (v := 0) hx hb dX5_trialBySeed_2 (by decide) ?_
  refine lv_istore_n (lv' := [(3, .int (0:Int32)), (2, .int (1:Int32)), (0, .ref ht), (1, .int a1)]) hx hb dX5_trialBySeed_3 rfl hl (by decide) rfl (fun ls hl => ?_)
  have ex4 : ∀ (z2_4 : Int32) (z3_4 : Int32) (zvt_nowSeed_4 : Int64) (H : Heap) (locs : List Loc) (ls : Array Slot), va_P (dC, dI) vwCl [(ht, .inr (4, [.ref ht_text, .ref ht_bench, .ref ht_acts, .ref ht_drawers, .ref ht_told, .ref ht_pagesOfTrial, .ref ht_kept, .int vt_spoken, .long zvt_nowSeed_4]))] H → va_D A [(ht, .inr (4, [.ref ht_text, .ref ht_bench, .ref ht_acts, .ref ht_drawers, .ref ht_told, .ref ht_pagesOfTrial, .ref ht_kept, .int vt_spoken, .long zvt_nowSeed_4]))] → va_S A s.heap H locs → lv_has ls 4 [(3, .int z3_4), (2, .int z2_4), (0, .ref ht), (1, .int a1)] → (some (z2_4, zvt_nowSeed_4)) = some R → W p l e (rm_X5_trialBySeed) s m ([.ref ht, .int a1] : List Value).toArray below meth c H locs 0 0 (MQ below (q_X5_trialBySeed dC dI cI cJ cZ ht ht_text ht_bench ht_acts ht_drawers ht_told ht_pagesOfTrial ht_kept vt_spoken R A) ([.ref ht, .int a1] : List Value).toArray s 0 0 A) (F0 m 46 ls []) := by
    intro z2_4 z3_4 zvt_nowSeed_4 H locs ls hP hD hS hl hf
    refine lv_iload_n hx hb dX5_trialBySeed_46 rfl (lv_at hl 1 rfl) ?_
    have he := Option.some.inj hf
    have hP9 := hP
    have hD9 := hD
    exact W.iret (v := z2_4) hx hb hr (fun t eth hW => ⟨⟨z2_4, zvt_nowSeed_4, rfl, ⟨(congrArg Prod.fst he).symm, (congrArg Prod.snd he).symm⟩, by rw [eth]; exact hP9, va_K.moved hW.alike hK, hD9⟩, hS.F eth⟩) hS.2.2 dX5_trialBySeed_47
  have lp4 : ∀ (n4 : Nat) (y2_4 : Int32) (y3_4 : Int32) (yvt_nowSeed_4 : Int64) (H : Heap) (locs : List Loc) (ls : Array Slot), va_P (dC, dI) vwCl [(ht, .inr (4, [.ref ht_text, .ref ht_bench, .ref ht_acts, .ref ht_drawers, .ref ht_told, .ref ht_pagesOfTrial, .ref ht_kept, .int vt_spoken, .long yvt_nowSeed_4]))] H → va_D A [(ht, .inr (4, [.ref ht_text, .ref ht_bench, .ref ht_acts, .ref ht_drawers, .ref ht_told, .ref ht_pagesOfTrial, .ref ht_kept, .int vt_spoken, .long yvt_nowSeed_4]))] → va_S A s.heap H locs → lv_has ls 4 [(3, .int y3_4), (2, .int y2_4), (0, .ref ht), (1, .int a1)] → f_X5_trialBySeed_4 N a1 (fun z2_4 z3_4 zvt_nowSeed_4 => some (z2_4, zvt_nowSeed_4)) n4 y2_4 y3_4 yvt_nowSeed_4 = some R → W p l e (rm_X5_trialBySeed) s m ([.ref ht, .int a1] : List Value).toArray below meth c H locs 0 0 (MQ below (q_X5_trialBySeed dC dI cI cJ cZ ht ht_text ht_bench ht_acts ht_drawers ht_told ht_pagesOfTrial ht_kept vt_spoken R A) ([.ref ht, .int a1] : List Value).toArray s 0 0 A) (F0 m 4 ls []) := by
    intro n4
    induction n4 with
    | zero => intro y2_4 y3_4 yvt_nowSeed_4 H locs ls hP hD hS hl hf; rw [f_X5_trialBySeed_4] at hf; cases hf
    | succ n4 ih4 =>
      intro y2_4 y3_4 yvt_nowSeed_4 H locs ls hP hD hS hl hf
      rw [f_X5_trialBySeed_4] at hf
      refine lv_iload_n hx hb dX5_trialBySeed_4 rfl (lv_at hl 0 rfl) ?_
      refine lv_iload_n hx hb dX5_trialBySeed_5 rfl (lv_at hl 3 rfl) ?_
      refine lv_icmp_ge (tgt := 46) hx hb dX5_trialBySeed_6 (by decide) (fun c1 => ?_) (fun c1 => ?_)
      · replace hf := dg_t c1 hf
        exact ex4 y2_4 y3_4 yvt_nowSeed_4 _ _ _ hP hD hS (lv_sub hl [0, 1, 2, 3] rfl) hf
      · replace hf := dg_f c1 hf
        refine lv_aload_n hx hb dX5_trialBySeed_9 rfl (lv_at hl 2 rfl) ?_
        refine lv_aload_n hx hb dX5_trialBySeed_10 rfl (lv_at hl 2 rfl) ?_
        refine va_get (D := (dC, dI)) (ci := 4) (v := .long yvt_nowSeed_4) (C := RX5) (T := TX5) (N := 9) hx hb hts hinX5 hown hK hP 0 rfl rfl 8 (by decide) hw0 (fun _ h9 => h9) rfl dX5_trialBySeed_11 ?_
        refine lv_ldc2 (v := 6364136223846793005) hx hb hown hw1 dX5_trialBySeed_14 ?_
        refine lv_lmul hx hb dX5_trialBySeed_17 ?_
        refine lv_ldc2 (v := 1442695040888963407) hx hb hown hw2 dX5_trialBySeed_18 ?_
        refine lv_ladd hx hb dX5_trialBySeed_21 ?_
        refine va_put (D := (dC, dI)) (ci := 4) (v := .long ((yvt_nowSeed_4 * (6364136223846793005:Int64)) + (1442695040888963407:Int64))) (ty := .long) (C := RX5) (T := TX5) (N := 9) hx hb hts hinX5 tyX5 tyX5_ok nmX5 hown hK hP hD hS 0 rfl rfl 8 (by decide) hw0 (fun _ h9 => h9) rfl (by decide +kernel) rfl rfl (Nat.le_of_ble_eq_true rfl) dX5_trialBySeed_22 (fun H locs hP hD hS => ?_)
        have hP : va_P (dC, dI) vwCl [(ht, .inr (4, [.ref ht_text, .ref ht_bench, .ref ht_acts, .ref ht_drawers, .ref ht_told, .ref ht_pagesOfTrial, .ref ht_kept, .int vt_spoken, .long ((yvt_nowSeed_4 * (6364136223846793005:Int64)) + (1442695040888963407:Int64))]))] H := hP
        have hD : va_D A [(ht, .inr (4, [.ref ht_text, .ref ht_bench, .ref ht_acts, .ref ht_drawers, .ref ht_told, .ref ht_pagesOfTrial, .ref ht_kept, .int vt_spoken, .long ((yvt_nowSeed_4 * (6364136223846793005:Int64)) + (1442695040888963407:Int64))]))] := hD
        refine lv_iload_n hx hb dX5_trialBySeed_25 rfl (lv_at hl 1 rfl) ?_
        refine lv_aload_n hx hb dX5_trialBySeed_26 rfl (lv_at hl 2 rfl) ?_
        refine va_get (D := (dC, dI)) (ci := 4) (v := .long ((yvt_nowSeed_4 * (6364136223846793005:Int64)) + (1442695040888963407:Int64))) (C := RX5) (T := TX5) (N := 9) hx hb hts hinX5 hown hK hP 0 rfl rfl 8 (by decide) hw0 (fun _ h9 => h9) rfl dX5_trialBySeed_27 ?_
        refine lv_bipush (v := 33) hx hb dX5_trialBySeed_30 (by decide) ?_
        refine lv_lushr hx hb dX5_trialBySeed_32 rfl ?_
        refine lv_l2i hx hb dX5_trialBySeed_33 rfl ?_
        refine lv_iconst (v := 4) hx hb dX5_trialBySeed_34 (by decide) ?_
        refine lv_irem hx hb dX5_trialBySeed_35 (by decide) ?_
        obtain ⟨x2, hx2, hf⟩ := dg_bind hf
        have hPc : va_P (dC, dI) vwCl [] H := hP.sub [] rfl
        have hDc : va_D A [] := hD.sub [] (by decide) rfl
        have hFc := va_free (wc := []) hD hS hA [] rfl
        refine va_calli (va_runS (As := [.int y2_4, .int ((((yvt_nowSeed_4 * (6364136223846793005:Int64)) + (1442695040888963407:Int64)).toUInt64 >>> ((33:Int32).toInt64.toUInt64 &&& Int64.toUInt64 63)).toInt64.toInt32 - (((yvt_nowSeed_4 * (6364136223846793005:Int64)) + (1442695040888963407:Int64)).toUInt64 >>> ((33:Int32).toInt64.toUInt64 &&& Int64.toUInt64 63)).toInt64.toInt32 / (4:Int32) * (4:Int32))]) (rest := []) ⟨hx, hb, hml, hown, hts⟩ (k_X4_with l dC dI cI cJ cZ H.size y2_4 ((((yvt_nowSeed_4 * (6364136223846793005:Int64)) + (1442695040888963407:Int64)).toUInt64 >>> ((33:Int32).toInt64.toUInt64 &&& Int64.toUInt64 63)).toInt64.toInt32 - (((yvt_nowSeed_4 * (6364136223846793005:Int64)) + (1442695040888963407:Int64)).toUInt64 >>> ((33:Int32).toInt64.toUInt64 &&& Int64.toUInt64 63)).toInt64.toInt32 / (4:Int32) * (4:Int32)) N x2 hx2) (va_cwS 2 hts gX5_trialBySeed_X4_with rfl rfl rfl hd_X4_with ⟨Nat.le_of_ble_eq_true rfl, Nat.le_of_ble_eq_true rfl⟩) ⟨blind_pc, pre_pc hPc hK hDc⟩ rfl rfl hl.1 rfl (lv_room (Nat.le_of_ble_eq_true rfl)) dX5_trialBySeed_36 ⟨Nat.zero_le _, Nat.zero_le _⟩) hS (fun q _ h => hFc q h) hFc (fun r u t H1 locs eth hvm hw hB hz1 hk1 hS => ?_)
        obtain ⟨hP1, hK1, hD1⟩ := hB
        rw [eth] at hP1
        subst hw
        obtain ⟨hP, hD⟩ := va_join (wr := [(ht, .inr (4, [.ref ht_text, .ref ht_bench, .ref ht_acts, .ref ht_drawers, .ref ht_told, .ref ht_pagesOfTrial, .ref ht_kept, .int vt_spoken, .long ((yvt_nowSeed_4 * (6364136223846793005:Int64)) + (1442695040888963407:Int64))]))]) (w1 := []) hP hD [] [0] rfl rfl (by decide) (by decide) hk1 hFc hP1 hD1
        clear hP1 hK1 hD1 hPc hDc hFc hk1 hz1 hvm eth
        generalize H1 = H at hP hS ⊢
        have hP : va_P (dC, dI) vwCl [(ht, .inr (4, [.ref ht_text, .ref ht_bench, .ref ht_acts, .ref ht_drawers, .ref ht_told, .ref ht_pagesOfTrial, .ref ht_kept, .int vt_spoken, .long ((yvt_nowSeed_4 * (6364136223846793005:Int64)) + (1442695040888963407:Int64))]))] H := hP
        have hD : va_D A [(ht, .inr (4, [.ref ht_text, .ref ht_bench, .ref ht_acts, .ref ht_drawers, .ref ht_told, .ref ht_pagesOfTrial, .ref ht_kept, .int vt_spoken, .long ((yvt_nowSeed_4 * (6364136223846793005:Int64)) + (1442695040888963407:Int64))]))] := hD
        refine lv_istore_n (lv' := [(2, .int x2), (3, .int y3_4), (0, .ref ht), (1, .int a1)]) hx hb dX5_trialBySeed_39 rfl hl (by decide) rfl (fun ls hl => ?_)
        refine lv_iinc (v := (y3_4 + (1:Int32))) (lv' := [(3, .int (y3_4 + (1:Int32))), (2, .int x2), (0, .ref ht), (1, .int a1)]) hx hb dX5_trialBySeed_40 hl (k := 1) rfl (by first | rfl | decide) (by decide) rfl (fun ls hl => ?_)
        refine lv_goto (tgt := 4) hx hb dX5_trialBySeed_43 (by decide) ?_
        exact ih4 x2 (y3_4 + (1:Int32)) ((yvt_nowSeed_4 * (6364136223846793005:Int64)) + (1442695040888963407:Int64)) _ _ _ hP hD hS (lv_sub hl [0, 1, 2, 3] rfl) hf
  exact lp4 N (1:Int32) (0:Int32) vt_nowSeed _ _ _ hP hD hS hl hf
theorem hd_X5_days : yX5_days.cls = RX5 ∧ yX5_days.cls ≠ "java/lang/invoke/MethodHandle" ∧ yX5_days.cls ≠ "java/lang/invoke/VarHandle" ∧ (parseMethodDescriptor yX5_days.desc).map (fun d => d.parameters.length) = some 2 := by decide +kernel
abbrev rm_X5_days : Room := { frames := 5, cells := 0, slots := 0, locals := 118 }
abbrev q_X5_days (dC : Nat → ClassId) (dI : Nat → Nat → Nat) (cI cJ cZ : ClassId) (ht ht_text ht_bench ht_acts ht_drawers ht_told ht_pagesOfTrial ht_kept ht_bench_drops ht_bench_from ht_bench_to ht_bench_tires ht_bench_copies ht_bench_pages : Nat) (vt_spoken : Int32) (vt_bench_size : Int32) (vt_bench_drops : Nat → Int32) (vt_bench_from : Nat → Int32) (vt_bench_to : Nat → Int32) (vt_bench_tires : Nat → Int32) (vt_bench_copies : Nat → Int32) (R : Int32 × Int64 × (Nat → Int32)) (A : Nat → Prop) : Array Value → State → Outcome → State → Prop := va_Qi (fun (r : Int32) (u : Int64 × (Nat → Int32)) => R.1 = r ∧ R.2 = u) (fun (u : Int64 × (Nat → Int32)) (t : State) => va_P (dC, dI) vwCl [(ht, .inr (4, [.ref ht_text, .ref ht_bench, .ref ht_acts, .ref ht_drawers, .ref ht_told, .ref ht_pagesOfTrial, .ref ht_kept, .int vt_spoken, .long u.1])), (ht_bench, .inr (1, [.ref ht_bench_drops, .ref ht_bench_from, .ref ht_bench_to, .ref ht_bench_tires, .ref ht_bench_copies, .ref ht_bench_pages, .int vt_bench_size])), (ht_bench_drops, .inl (cI, 4, .inl vt_bench_drops)), (ht_bench_from, .inl (cI, 4, .inl vt_bench_from)), (ht_bench_to, .inl (cI, 4, .inl vt_bench_to)), (ht_bench_tires, .inl (cI, 4, .inl vt_bench_tires)), (ht_bench_copies, .inl (cI, 4, .inl vt_bench_copies)), (ht_bench_pages, .inl (cI, 4, .inl u.2))] t.heap ∧ va_K (dC, dI) vwCl [(cI, .int), (cJ, .long), (cZ, .boolean)] t ∧ va_D A [(ht, .inr (4, [.ref ht_text, .ref ht_bench, .ref ht_acts, .ref ht_drawers, .ref ht_told, .ref ht_pagesOfTrial, .ref ht_kept, .int vt_spoken, .long u.1])), (ht_bench, .inr (1, [.ref ht_bench_drops, .ref ht_bench_from, .ref ht_bench_to, .ref ht_bench_tires, .ref ht_bench_copies, .ref ht_bench_pages, .int vt_bench_size])), (ht_bench_drops, .inl (cI, 4, .inl vt_bench_drops)), (ht_bench_from, .inl (cI, 4, .inl vt_bench_from)), (ht_bench_to, .inl (cI, 4, .inl vt_bench_to)), (ht_bench_tires, .inl (cI, 4, .inl vt_bench_tires)), (ht_bench_copies, .inl (cI, 4, .inl vt_bench_copies)), (ht_bench_pages, .inl (cI, 4, .inl u.2))]) A
set_option maxHeartbeats 4000000 in
set_option maxRecDepth 100000 in
theorem k_X5_days (l : Launch) (dC : Nat → ClassId) (dI : Nat → Nat → Nat) (cI cJ cZ : ClassId) (sz : Nat) (ht ht_text ht_bench ht_acts ht_drawers ht_told ht_pagesOfTrial ht_kept ht_bench_drops ht_bench_from ht_bench_to ht_bench_tires ht_bench_copies ht_bench_pages : Nat) (a1 : Int32) (a2 : Int32) (vt_spoken : Int32) (vt_nowSeed : Int64) (vt_bench_size : Int32) (vt_bench_drops : Nat → Int32) (vt_bench_from : Nat → Int32) (vt_bench_to : Nat → Int32) (vt_bench_tires : Nat → Int32) (vt_bench_copies : Nat → Int32) (vt_bench_pages : Nat → Int32) (N : Nat) (R : Int32 × Int64 × (Nat → Int32)) (hf : f_X5_days N a1 a2 vt_nowSeed vt_bench_size vt_bench_drops vt_bench_from vt_bench_to vt_bench_tires vt_bench_copies vt_bench_pages = some R) : Met l yX5_days wsX5_days (rm_X5_days) (va_Pc [.ref ht, .int a1, .int a2] (fun U => U.heap.size = sz ∧ va_P (dC, dI) vwCl [(ht, .inr (4, [.ref ht_text, .ref ht_bench, .ref ht_acts, .ref ht_drawers, .ref ht_told, .ref ht_pagesOfTrial, .ref ht_kept, .int vt_spoken, .long vt_nowSeed])), (ht_bench, .inr (1, [.ref ht_bench_drops, .ref ht_bench_from, .ref ht_bench_to, .ref ht_bench_tires, .ref ht_bench_copies, .ref ht_bench_pages, .int vt_bench_size])), (ht_bench_drops, .inl (cI, 4, .inl vt_bench_drops)), (ht_bench_from, .inl (cI, 4, .inl vt_bench_from)), (ht_bench_to, .inl (cI, 4, .inl vt_bench_to)), (ht_bench_tires, .inl (cI, 4, .inl vt_bench_tires)), (ht_bench_copies, .inl (cI, 4, .inl vt_bench_copies)), (ht_bench_pages, .inl (cI, 4, .inl vt_bench_pages))] U.heap ∧ va_K (dC, dI) vwCl [(cI, .int), (cJ, .long), (cZ, .boolean)] U ∧ va_D (fun _ => True) [(ht, .inr (4, [.ref ht_text, .ref ht_bench, .ref ht_acts, .ref ht_drawers, .ref ht_told, .ref ht_pagesOfTrial, .ref ht_kept, .int vt_spoken, .long vt_nowSeed])), (ht_bench, .inr (1, [.ref ht_bench_drops, .ref ht_bench_from, .ref ht_bench_to, .ref ht_bench_tires, .ref ht_bench_copies, .ref ht_bench_pages, .int vt_bench_size])), (ht_bench_drops, .inl (cI, 4, .inl vt_bench_drops)), (ht_bench_from, .inl (cI, 4, .inl vt_bench_from)), (ht_bench_to, .inl (cI, 4, .inl vt_bench_to)), (ht_bench_tires, .inl (cI, 4, .inl vt_bench_tires)), (ht_bench_copies, .inl (cI, 4, .inl vt_bench_copies)), (ht_bench_pages, .inl (cI, 4, .inl vt_bench_pages))])) (q_X5_days dC dI cI cJ cZ ht ht_text ht_bench ht_acts ht_drawers ht_told ht_pagesOfTrial ht_kept ht_bench_drops ht_bench_from ht_bench_to ht_bench_tires ht_bench_copies ht_bench_pages vt_spoken vt_bench_size vt_bench_drops vt_bench_from vt_bench_to vt_bench_tires vt_bench_copies R (va_A [(ht, .inr (4, [.ref ht_text, .ref ht_bench, .ref ht_acts, .ref ht_drawers, .ref ht_told, .ref ht_pagesOfTrial, .ref ht_kept, .int vt_spoken, .long vt_nowSeed])), (ht_bench, .inr (1, [.ref ht_bench_drops, .ref ht_bench_from, .ref ht_bench_to, .ref ht_bench_tires, .ref ht_bench_copies, .ref ht_bench_pages, .int vt_bench_size])), (ht_bench_drops, .inl (cI, 4, .inl vt_bench_drops)), (ht_bench_from, .inl (cI, 4, .inl vt_bench_from)), (ht_bench_to, .inl (cI, 4, .inl vt_bench_to)), (ht_bench_tires, .inl (cI, 4, .inl vt_bench_tires)), (ht_bench_copies, .inl (cI, 4, .inl vt_bench_copies)), (ht_bench_pages, .inl (cI, 4, .inl vt_bench_pages))] sz)) 0 0 (va_A [(ht, .inr (4, [.ref ht_text, .ref ht_bench, .ref ht_acts, .ref ht_drawers, .ref ht_told, .ref ht_pagesOfTrial, .ref ht_kept, .int vt_spoken, .long vt_nowSeed])), (ht_bench, .inr (1, [.ref ht_bench_drops, .ref ht_bench_from, .ref ht_bench_to, .ref ht_bench_tires, .ref ht_bench_copies, .ref ht_bench_pages, .int vt_bench_size])), (ht_bench_drops, .inl (cI, 4, .inl vt_bench_drops)), (ht_bench_from, .inl (cI, 4, .inl vt_bench_from)), (ht_bench_to, .inl (cI, 4, .inl vt_bench_to)), (ht_bench_tires, .inl (cI, 4, .inl vt_bench_tires)), (ht_bench_copies, .inl (cI, 4, .inl vt_bench_copies)), (ht_bench_pages, .inl (cI, 4, .inl vt_bench_pages))] sz) := by
  refine Met.ofW (cc := cX5_days) (maxL := 5) (ret := (some .int)) (by decide) rfl ?_
  intro p e s m args below meth c s₁ B hml hv
  obtain ⟨rfl, hsz, hP, hK, hD0⟩ := hv
  have hx := B.exec
  have hb := B.bytes
  have hr := B.returns
  have hts := atoms_spec (ws := wsX5_days) B.pre
  have hown : s.vm.findClass RX5 = some m.cls := findClass_of_methodNamed B.named
  have hlocks := B.notSynchronized
  clear B
  subst hsz
  have hw0 := hts (.fieldLink RX5 19 "ShorthandCourt" "bench" "LShorthandCourt$Bench;") (by decide +kernel)
  have hinX5 : ∀ w ∈ u_ws RX5 TX5 9, w ∈ wsX5_days := by decide +kernel
  have hD := hD0.self (sz := s.heap.size)
  clear hD0
  generalize hAe : va_A [(ht, .inr (4, [.ref ht_text, .ref ht_bench, .ref ht_acts, .ref ht_drawers, .ref ht_told, .ref ht_pagesOfTrial, .ref ht_kept, .int vt_spoken, .long vt_nowSeed])), (ht_bench, .inr (1, [.ref ht_bench_drops, .ref ht_bench_from, .ref ht_bench_to, .ref ht_bench_tires, .ref ht_bench_copies, .ref ht_bench_pages, .int vt_bench_size])), (ht_bench_drops, .inl (cI, 4, .inl vt_bench_drops)), (ht_bench_from, .inl (cI, 4, .inl vt_bench_from)), (ht_bench_to, .inl (cI, 4, .inl vt_bench_to)), (ht_bench_tires, .inl (cI, 4, .inl vt_bench_tires)), (ht_bench_copies, .inl (cI, 4, .inl vt_bench_copies)), (ht_bench_pages, .inl (cI, 4, .inl vt_bench_pages))] s.heap.size = A at hD ⊢
  have hA : ∀ q : Nat, s.heap.size ≤ q → A q := fun q h => by rw [← hAe]; exact Or.inr h
  clear hAe
  have hS : va_S A s.heap s.heap [] := va_S.rf
  have hl := lv_entry ([.ref ht, .int a1, .int a2]) (n := 5) (Nat.le_of_ble_eq_true rfl)
  rw [lg_entry_eq]
  generalize (lg_sl ([.ref ht, .int a1, .int a2]) ++ List.replicate (5 - (lg_sl ([.ref ht, .int a1, .int a2])).length) Slot.unset).toArray = ls at hl ⊢
  have hl : lv_has ls 5 [(0, .ref ht), (1, .int a1), (2, .int a2)] := hl
  unfold f_X5_days at hf
  refine lv_iload_n hx hb dX5_days_0 rfl (lv_at hl 1 rfl) ?_
  refine lv_iconst (v := 1) hx hb dX5_days_1 (by decide) ?_
  refine lv_icmp_lt (tgt := 22) hx hb dX5_days_2 (by decide) (fun c1 => ?_) (fun c1 => ?_)
  · replace hf := dg_t c1 hf
    refine lv_bipush (v := -2) hx hb dX5_days_22 (by decide) ?_
    have he := Option.some.inj hf
    have hP9 := hP
    have hD9 := hD
    exact W.iret (v := (-2:Int32)) hx hb hr (fun t eth hW => ⟨⟨(-2:Int32), (vt_nowSeed, vt_bench_pages), rfl, ⟨(congrArg Prod.fst he).symm, (congrArg Prod.snd he).symm⟩, by rw [eth]; exact hP9, va_K.moved hW.alike hK, hD9⟩, hS.F eth⟩) hS.2.2 dX5_days_24
  · replace hf := dg_f c1 hf
    refine lv_iload_n hx hb dX5_days_5 rfl (lv_at hl 1 rfl) ?_
    refine lv_bipush (v := 30) hx hb dX5_days_6 (by decide) ?_
    refine lv_icmp_gt (tgt := 22) hx hb dX5_days_8 (by decide) (fun c2 => ?_) (fun c2 => ?_)
    · replace hf := dg_t c2 hf
      refine lv_bipush (v := -2) hx hb dX5_days_22 (by decide) ?_
      have he := Option.some.inj hf
      have hP9 := hP
      have hD9 := hD
      exact W.iret (v := (-2:Int32)) hx hb hr (fun t eth hW => ⟨⟨(-2:Int32), (vt_nowSeed, vt_bench_pages), rfl, ⟨(congrArg Prod.fst he).symm, (congrArg Prod.snd he).symm⟩, by rw [eth]; exact hP9, va_K.moved hW.alike hK, hD9⟩, hS.F eth⟩) hS.2.2 dX5_days_24
    · replace hf := dg_f c2 hf
      refine lv_iload_n hx hb dX5_days_11 rfl (lv_at hl 2 rfl) ?_
      refine lv_iconst (v := 1) hx hb dX5_days_12 (by decide) ?_
      refine lv_icmp_lt (tgt := 22) hx hb dX5_days_13 (by decide) (fun c3 => ?_) (fun c3 => ?_)
      · replace hf := dg_t c3 hf
        refine lv_bipush (v := -2) hx hb dX5_days_22 (by decide) ?_
        have he := Option.some.inj hf
        have hP9 := hP
        have hD9 := hD
        exact W.iret (v := (-2:Int32)) hx hb hr (fun t eth hW => ⟨⟨(-2:Int32), (vt_nowSeed, vt_bench_pages), rfl, ⟨(congrArg Prod.fst he).symm, (congrArg Prod.snd he).symm⟩, by rw [eth]; exact hP9, va_K.moved hW.alike hK, hD9⟩, hS.F eth⟩) hS.2.2 dX5_days_24
      · replace hf := dg_f c3 hf
        refine lv_iload_n hx hb dX5_days_16 rfl (lv_at hl 2 rfl) ?_
        refine lv_bipush (v := 6) hx hb dX5_days_17 (by decide) ?_
        refine lv_icmp_le (tgt := 25) hx hb dX5_days_19 (by decide) (fun c4 => ?_) (fun c4 => ?_)
        · replace hf := dg_t c4 hf
          refine lv_iconst (v := 0) hx hb dX5_days_25 (by decide) ?_
          refine lv_istore_n (lv' := [(3, .int (0:Int32)), (0, .ref ht), (1, .int a1), (2, .int a2)]) hx hb dX5_days_26 rfl hl (by decide) rfl (fun ls hl => ?_)
          refine lv_iconst (v := 0) hx hb dX5_days_27 (by decide) ?_
          refine lv_istore (lv' := [(4, .int (0:Int32)), (3, .int (0:Int32)), (0, .ref ht), (1, .int a1), (2, .int a2)]) hx hb dX5_days_28 hl (by decide) rfl (fun ls hl => ?_)
          have ex30 : ∀ (z3_30 : Int32) (z4_30 : Int32) (zvt_nowSeed_30 : Int64) (zvt_bench_pages_30 : (Nat → Int32)) (H : Heap) (locs : List Loc) (ls : Array Slot), va_P (dC, dI) vwCl [(ht, .inr (4, [.ref ht_text, .ref ht_bench, .ref ht_acts, .ref ht_drawers, .ref ht_told, .ref ht_pagesOfTrial, .ref ht_kept, .int vt_spoken, .long zvt_nowSeed_30])), (ht_bench, .inr (1, [.ref ht_bench_drops, .ref ht_bench_from, .ref ht_bench_to, .ref ht_bench_tires, .ref ht_bench_copies, .ref ht_bench_pages, .int vt_bench_size])), (ht_bench_drops, .inl (cI, 4, .inl vt_bench_drops)), (ht_bench_from, .inl (cI, 4, .inl vt_bench_from)), (ht_bench_to, .inl (cI, 4, .inl vt_bench_to)), (ht_bench_tires, .inl (cI, 4, .inl vt_bench_tires)), (ht_bench_copies, .inl (cI, 4, .inl vt_bench_copies)), (ht_bench_pages, .inl (cI, 4, .inl zvt_bench_pages_30))] H → va_D A [(ht, .inr (4, [.ref ht_text, .ref ht_bench, .ref ht_acts, .ref ht_drawers, .ref ht_told, .ref ht_pagesOfTrial, .ref ht_kept, .int vt_spoken, .long zvt_nowSeed_30])), (ht_bench, .inr (1, [.ref ht_bench_drops, .ref ht_bench_from, .ref ht_bench_to, .ref ht_bench_tires, .ref ht_bench_copies, .ref ht_bench_pages, .int vt_bench_size])), (ht_bench_drops, .inl (cI, 4, .inl vt_bench_drops)), (ht_bench_from, .inl (cI, 4, .inl vt_bench_from)), (ht_bench_to, .inl (cI, 4, .inl vt_bench_to)), (ht_bench_tires, .inl (cI, 4, .inl vt_bench_tires)), (ht_bench_copies, .inl (cI, 4, .inl vt_bench_copies)), (ht_bench_pages, .inl (cI, 4, .inl zvt_bench_pages_30))] → va_S A s.heap H locs → lv_has ls 5 [(4, .int z4_30), (3, .int z3_30), (0, .ref ht), (1, .int a1), (2, .int a2)] → (some (z3_30, (zvt_nowSeed_30, zvt_bench_pages_30))) = some R → W p l e (rm_X5_days) s m ([.ref ht, .int a1, .int a2] : List Value).toArray below meth c H locs 0 0 (MQ below (q_X5_days dC dI cI cJ cZ ht ht_text ht_bench ht_acts ht_drawers ht_told ht_pagesOfTrial ht_kept ht_bench_drops ht_bench_from ht_bench_to ht_bench_tires ht_bench_copies ht_bench_pages vt_spoken vt_bench_size vt_bench_drops vt_bench_from vt_bench_to vt_bench_tires vt_bench_copies R A) ([.ref ht, .int a1, .int a2] : List Value).toArray s 0 0 A) (F0 m 64 ls []) := by
            intro z3_30 z4_30 zvt_nowSeed_30 zvt_bench_pages_30 H locs ls hP hD hS hl hf
            refine lv_iload_n hx hb dX5_days_64 rfl (lv_at hl 1 rfl) ?_
            have he := Option.some.inj hf
            have hP9 := hP
            have hD9 := hD
            exact W.iret (v := z3_30) hx hb hr (fun t eth hW => ⟨⟨z3_30, (zvt_nowSeed_30, zvt_bench_pages_30), rfl, ⟨(congrArg Prod.fst he).symm, (congrArg Prod.snd he).symm⟩, by rw [eth]; exact hP9, va_K.moved hW.alike hK, hD9⟩, hS.F eth⟩) hS.2.2 dX5_days_65
          have lp30 : ∀ (n30 : Nat) (y3_30 : Int32) (y4_30 : Int32) (yvt_nowSeed_30 : Int64) (yvt_bench_pages_30 : (Nat → Int32)) (H : Heap) (locs : List Loc) (ls : Array Slot), va_P (dC, dI) vwCl [(ht, .inr (4, [.ref ht_text, .ref ht_bench, .ref ht_acts, .ref ht_drawers, .ref ht_told, .ref ht_pagesOfTrial, .ref ht_kept, .int vt_spoken, .long yvt_nowSeed_30])), (ht_bench, .inr (1, [.ref ht_bench_drops, .ref ht_bench_from, .ref ht_bench_to, .ref ht_bench_tires, .ref ht_bench_copies, .ref ht_bench_pages, .int vt_bench_size])), (ht_bench_drops, .inl (cI, 4, .inl vt_bench_drops)), (ht_bench_from, .inl (cI, 4, .inl vt_bench_from)), (ht_bench_to, .inl (cI, 4, .inl vt_bench_to)), (ht_bench_tires, .inl (cI, 4, .inl vt_bench_tires)), (ht_bench_copies, .inl (cI, 4, .inl vt_bench_copies)), (ht_bench_pages, .inl (cI, 4, .inl yvt_bench_pages_30))] H → va_D A [(ht, .inr (4, [.ref ht_text, .ref ht_bench, .ref ht_acts, .ref ht_drawers, .ref ht_told, .ref ht_pagesOfTrial, .ref ht_kept, .int vt_spoken, .long yvt_nowSeed_30])), (ht_bench, .inr (1, [.ref ht_bench_drops, .ref ht_bench_from, .ref ht_bench_to, .ref ht_bench_tires, .ref ht_bench_copies, .ref ht_bench_pages, .int vt_bench_size])), (ht_bench_drops, .inl (cI, 4, .inl vt_bench_drops)), (ht_bench_from, .inl (cI, 4, .inl vt_bench_from)), (ht_bench_to, .inl (cI, 4, .inl vt_bench_to)), (ht_bench_tires, .inl (cI, 4, .inl vt_bench_tires)), (ht_bench_copies, .inl (cI, 4, .inl vt_bench_copies)), (ht_bench_pages, .inl (cI, 4, .inl yvt_bench_pages_30))] → va_S A s.heap H locs → lv_has ls 5 [(4, .int y4_30), (3, .int y3_30), (0, .ref ht), (1, .int a1), (2, .int a2)] → f_X5_days_30 N a1 a2 vt_bench_size vt_bench_drops vt_bench_from vt_bench_to vt_bench_tires vt_bench_copies (fun z3_30 z4_30 zvt_nowSeed_30 zvt_bench_pages_30 => some (z3_30, (zvt_nowSeed_30, zvt_bench_pages_30))) n30 y3_30 y4_30 yvt_nowSeed_30 yvt_bench_pages_30 = some R → W p l e (rm_X5_days) s m ([.ref ht, .int a1, .int a2] : List Value).toArray below meth c H locs 0 0 (MQ below (q_X5_days dC dI cI cJ cZ ht ht_text ht_bench ht_acts ht_drawers ht_told ht_pagesOfTrial ht_kept ht_bench_drops ht_bench_from ht_bench_to ht_bench_tires ht_bench_copies ht_bench_pages vt_spoken vt_bench_size vt_bench_drops vt_bench_from vt_bench_to vt_bench_tires vt_bench_copies R A) ([.ref ht, .int a1, .int a2] : List Value).toArray s 0 0 A) (F0 m 30 ls []) := by
            intro n30
            induction n30 with
            | zero => intro y3_30 y4_30 yvt_nowSeed_30 yvt_bench_pages_30 H locs ls hP hD hS hl hf; rw [f_X5_days_30] at hf; cases hf
            | succ n30 ih30 =>
              intro y3_30 y4_30 yvt_nowSeed_30 yvt_bench_pages_30 H locs ls hP hD hS hl hf
              rw [f_X5_days_30] at hf
              refine lv_iload hx hb dX5_days_30 (lv_at hl 0 rfl) ?_
              refine lv_iload_n hx hb dX5_days_32 rfl (lv_at hl 3 rfl) ?_
              refine lv_icmp_ge (tgt := 64) hx hb dX5_days_33 (by decide) (fun c5 => ?_) (fun c5 => ?_)
              · replace hf := dg_t c5 hf
                exact ex30 y3_30 y4_30 yvt_nowSeed_30 yvt_bench_pages_30 _ _ _ hP hD hS (lv_sub hl [0, 1, 2, 3, 4] rfl) hf
              · replace hf := dg_f c5 hf
                refine lv_aload_n hx hb dX5_days_36 rfl (lv_at hl 2 rfl) ?_
                refine va_get (D := (dC, dI)) (ci := 4) (v := .ref ht_bench) (C := RX5) (T := TX5) (N := 9) hx hb hts hinX5 hown hK hP 0 rfl rfl 1 (by decide) hw0 (fun _ h9 => h9) rfl dX5_days_37 ?_
                refine lv_aload_n hx hb dX5_days_40 rfl (lv_at hl 2 rfl) ?_
                refine lv_iload_n hx hb dX5_days_41 rfl (lv_at hl 4 rfl) ?_
                obtain ⟨x6, hx6, hf⟩ := dg_bind hf
                have hPc : va_P (dC, dI) vwCl [(ht, .inr (4, [.ref ht_text, .ref ht_bench, .ref ht_acts, .ref ht_drawers, .ref ht_told, .ref ht_pagesOfTrial, .ref ht_kept, .int vt_spoken, .long yvt_nowSeed_30]))] H := hP.sub [0] rfl
                have hDc : va_D A [(ht, .inr (4, [.ref ht_text, .ref ht_bench, .ref ht_acts, .ref ht_drawers, .ref ht_told, .ref ht_pagesOfTrial, .ref ht_kept, .int vt_spoken, .long yvt_nowSeed_30]))] := hD.sub [0] (by decide) rfl
                have hFc := va_free (wc := [(ht, .inr (4, [.ref ht_text, .ref ht_bench, .ref ht_acts, .ref ht_drawers, .ref ht_told, .ref ht_pagesOfTrial, .ref ht_kept, .int vt_spoken, .long yvt_nowSeed_30]))]) hD hS hA [0] rfl
                refine va_calli (va_runV (As := [.int a2]) (rest := [.ref ht_bench]) ⟨hx, hb, hml, hown, hts⟩ (k_X5_trialBySeed l dC dI cI cJ cZ H.size ht ht_text ht_bench ht_acts ht_drawers ht_told ht_pagesOfTrial ht_kept a2 vt_spoken yvt_nowSeed_30 N x6 hx6) (cwV 1 hts gX5_days_X5_trialBySeed rfl rfl rfl hd_X5_trialBySeed ⟨Nat.le_of_ble_eq_true rfl, Nat.le_of_ble_eq_true rfl⟩) ⟨blind_pc, va_recv hK hPc (ci := 4) (q0 := 0) rfl rfl, pre_pc hPc hK hDc⟩ rfl rfl hl.1 rfl (lv_room (Nat.le_of_ble_eq_true rfl)) dX5_days_42 ⟨Nat.zero_le _, Nat.zero_le _⟩) hS (fun q _ h => hFc q h) hFc (fun r u t H1 locs eth hvm hw hB hz1 hk1 hS => ?_)
                obtain ⟨hP1, hK1, hD1⟩ := hB
                rw [eth] at hP1
                obtain ⟨hw, hw2⟩ := hw
                subst hw; subst hw2
                obtain ⟨hP, hD⟩ := va_join (wr := [(ht_bench, .inr (1, [.ref ht_bench_drops, .ref ht_bench_from, .ref ht_bench_to, .ref ht_bench_tires, .ref ht_bench_copies, .ref ht_bench_pages, .int vt_bench_size])), (ht_bench_drops, .inl (cI, 4, .inl vt_bench_drops)), (ht_bench_from, .inl (cI, 4, .inl vt_bench_from)), (ht_bench_to, .inl (cI, 4, .inl vt_bench_to)), (ht_bench_tires, .inl (cI, 4, .inl vt_bench_tires)), (ht_bench_copies, .inl (cI, 4, .inl vt_bench_copies)), (ht_bench_pages, .inl (cI, 4, .inl yvt_bench_pages_30))]) (w1 := [(ht, .inr (4, [.ref ht_text, .ref ht_bench, .ref ht_acts, .ref ht_drawers, .ref ht_told, .ref ht_pagesOfTrial, .ref ht_kept, .int vt_spoken, .long x6.2]))]) hP hD [0] [1, 2, 3, 4, 5, 6, 7] rfl rfl (by decide) (by decide) hk1 hFc hP1 hD1
                clear hP1 hK1 hD1 hPc hDc hFc hk1 hz1 hvm eth
                generalize H1 = H at hP hS ⊢
                have hP : va_P (dC, dI) vwCl [(ht_bench, .inr (1, [.ref ht_bench_drops, .ref ht_bench_from, .ref ht_bench_to, .ref ht_bench_tires, .ref ht_bench_copies, .ref ht_bench_pages, .int vt_bench_size])), (ht_bench_drops, .inl (cI, 4, .inl vt_bench_drops)), (ht_bench_from, .inl (cI, 4, .inl vt_bench_from)), (ht_bench_to, .inl (cI, 4, .inl vt_bench_to)), (ht_bench_tires, .inl (cI, 4, .inl vt_bench_tires)), (ht_bench_copies, .inl (cI, 4, .inl vt_bench_copies)), (ht_bench_pages, .inl (cI, 4, .inl yvt_bench_pages_30)), (ht, .inr (4, [.ref ht_text, .ref ht_bench, .ref ht_acts, .ref ht_drawers, .ref ht_told, .ref ht_pagesOfTrial, .ref ht_kept, .int vt_spoken, .long x6.2]))] H := hP
                have hD : va_D A [(ht_bench, .inr (1, [.ref ht_bench_drops, .ref ht_bench_from, .ref ht_bench_to, .ref ht_bench_tires, .ref ht_bench_copies, .ref ht_bench_pages, .int vt_bench_size])), (ht_bench_drops, .inl (cI, 4, .inl vt_bench_drops)), (ht_bench_from, .inl (cI, 4, .inl vt_bench_from)), (ht_bench_to, .inl (cI, 4, .inl vt_bench_to)), (ht_bench_tires, .inl (cI, 4, .inl vt_bench_tires)), (ht_bench_copies, .inl (cI, 4, .inl vt_bench_copies)), (ht_bench_pages, .inl (cI, 4, .inl yvt_bench_pages_30)), (ht, .inr (4, [.ref ht_text, .ref ht_bench, .ref ht_acts, .ref ht_drawers, .ref ht_told, .ref ht_pagesOfTrial, .ref ht_kept, .int vt_spoken, .long x6.2]))] := hD
                obtain ⟨x7, hx7, hf⟩ := dg_bind hf
                have hPc : va_P (dC, dI) vwCl [(ht_bench, .inr (1, [.ref ht_bench_drops, .ref ht_bench_from, .ref ht_bench_to, .ref ht_bench_tires, .ref ht_bench_copies, .ref ht_bench_pages, .int vt_bench_size])), (ht_bench_drops, .inl (cI, 4, .inl vt_bench_drops)), (ht_bench_from, .inl (cI, 4, .inl vt_bench_from)), (ht_bench_to, .inl (cI, 4, .inl vt_bench_to)), (ht_bench_tires, .inl (cI, 4, .inl vt_bench_tires)), (ht_bench_copies, .inl (cI, 4, .inl vt_bench_copies)), (ht_bench_pages, .inl (cI, 4, .inl yvt_bench_pages_30))] H := hP.sub [0, 1, 2, 3, 4, 5, 6] rfl
                have hDc : va_D A [(ht_bench, .inr (1, [.ref ht_bench_drops, .ref ht_bench_from, .ref ht_bench_to, .ref ht_bench_tires, .ref ht_bench_copies, .ref ht_bench_pages, .int vt_bench_size])), (ht_bench_drops, .inl (cI, 4, .inl vt_bench_drops)), (ht_bench_from, .inl (cI, 4, .inl vt_bench_from)), (ht_bench_to, .inl (cI, 4, .inl vt_bench_to)), (ht_bench_tires, .inl (cI, 4, .inl vt_bench_tires)), (ht_bench_copies, .inl (cI, 4, .inl vt_bench_copies)), (ht_bench_pages, .inl (cI, 4, .inl yvt_bench_pages_30))] := hD.sub [0, 1, 2, 3, 4, 5, 6] (by decide) rfl
                have hFc := va_free (wc := [(ht_bench, .inr (1, [.ref ht_bench_drops, .ref ht_bench_from, .ref ht_bench_to, .ref ht_bench_tires, .ref ht_bench_copies, .ref ht_bench_pages, .int vt_bench_size])), (ht_bench_drops, .inl (cI, 4, .inl vt_bench_drops)), (ht_bench_from, .inl (cI, 4, .inl vt_bench_from)), (ht_bench_to, .inl (cI, 4, .inl vt_bench_to)), (ht_bench_tires, .inl (cI, 4, .inl vt_bench_tires)), (ht_bench_copies, .inl (cI, 4, .inl vt_bench_copies)), (ht_bench_pages, .inl (cI, 4, .inl yvt_bench_pages_30))]) hD hS hA [0, 1, 2, 3, 4, 5, 6] rfl
                refine va_callv (va_runV (As := [.int x6.1]) (rest := []) ⟨hx, hb, hml, hown, hts⟩ (k_X1_takeDown l dC dI cI cJ cZ H.size ht_bench ht_bench_drops ht_bench_from ht_bench_to ht_bench_tires ht_bench_copies ht_bench_pages x6.1 vt_bench_size vt_bench_drops vt_bench_from vt_bench_to vt_bench_tires vt_bench_copies yvt_bench_pages_30 N x7 hx7) (cwV 1 hts gX5_days_X1_takeDown rfl rfl rfl hd_X1_takeDown ⟨Nat.le_of_ble_eq_true rfl, Nat.le_of_ble_eq_true rfl⟩) ⟨blind_pc, va_recv hK hPc (ci := 1) (q0 := 0) rfl rfl, pre_pc hPc hK hDc⟩ rfl rfl hl.1 rfl (lv_room (Nat.le_of_ble_eq_true rfl)) dX5_days_45 ⟨Nat.zero_le _, Nat.zero_le _⟩) hS (fun q _ h => hFc q h) hFc (fun u t H1 locs eth hvm hw hB hz1 hk1 hS => ?_)
                obtain ⟨hP1, hK1, hD1⟩ := hB
                rw [eth] at hP1
                subst hw
                obtain ⟨hP, hD⟩ := va_join (wr := [(ht, .inr (4, [.ref ht_text, .ref ht_bench, .ref ht_acts, .ref ht_drawers, .ref ht_told, .ref ht_pagesOfTrial, .ref ht_kept, .int vt_spoken, .long x6.2]))]) (w1 := [(ht_bench, .inr (1, [.ref ht_bench_drops, .ref ht_bench_from, .ref ht_bench_to, .ref ht_bench_tires, .ref ht_bench_copies, .ref ht_bench_pages, .int vt_bench_size])), (ht_bench_drops, .inl (cI, 4, .inl vt_bench_drops)), (ht_bench_from, .inl (cI, 4, .inl vt_bench_from)), (ht_bench_to, .inl (cI, 4, .inl vt_bench_to)), (ht_bench_tires, .inl (cI, 4, .inl vt_bench_tires)), (ht_bench_copies, .inl (cI, 4, .inl vt_bench_copies)), (ht_bench_pages, .inl (cI, 4, .inl x7))]) hP hD [0, 1, 2, 3, 4, 5, 6] [7] rfl rfl (by decide) (by decide) hk1 hFc hP1 hD1
                clear hP1 hK1 hD1 hPc hDc hFc hk1 hz1 hvm eth
                generalize H1 = H at hP hS ⊢
                have hP : va_P (dC, dI) vwCl [(ht, .inr (4, [.ref ht_text, .ref ht_bench, .ref ht_acts, .ref ht_drawers, .ref ht_told, .ref ht_pagesOfTrial, .ref ht_kept, .int vt_spoken, .long x6.2])), (ht_bench, .inr (1, [.ref ht_bench_drops, .ref ht_bench_from, .ref ht_bench_to, .ref ht_bench_tires, .ref ht_bench_copies, .ref ht_bench_pages, .int vt_bench_size])), (ht_bench_drops, .inl (cI, 4, .inl vt_bench_drops)), (ht_bench_from, .inl (cI, 4, .inl vt_bench_from)), (ht_bench_to, .inl (cI, 4, .inl vt_bench_to)), (ht_bench_tires, .inl (cI, 4, .inl vt_bench_tires)), (ht_bench_copies, .inl (cI, 4, .inl vt_bench_copies)), (ht_bench_pages, .inl (cI, 4, .inl x7))] H := hP
                have hD : va_D A [(ht, .inr (4, [.ref ht_text, .ref ht_bench, .ref ht_acts, .ref ht_drawers, .ref ht_told, .ref ht_pagesOfTrial, .ref ht_kept, .int vt_spoken, .long x6.2])), (ht_bench, .inr (1, [.ref ht_bench_drops, .ref ht_bench_from, .ref ht_bench_to, .ref ht_bench_tires, .ref ht_bench_copies, .ref ht_bench_pages, .int vt_bench_size])), (ht_bench_drops, .inl (cI, 4, .inl vt_bench_drops)), (ht_bench_from, .inl (cI, 4, .inl vt_bench_from)), (ht_bench_to, .inl (cI, 4, .inl vt_bench_to)), (ht_bench_tires, .inl (cI, 4, .inl vt_bench_tires)), (ht_bench_copies, .inl (cI, 4, .inl vt_bench_copies)), (ht_bench_pages, .inl (cI, 4, .inl x7))] := hD
                refine lv_iload_n hx hb dX5_days_48 rfl (lv_at hl 1 rfl) ?_
                refine lv_aload_n hx hb dX5_days_49 rfl (lv_at hl 2 rfl) ?_
                refine va_get (D := (dC, dI)) (ci := 4) (v := .ref ht_bench) (C := RX5) (T := TX5) (N := 9) hx hb hts hinX5 hown hK hP 0 rfl rfl 1 (by decide) hw0 (fun _ h9 => h9) rfl dX5_days_50 ?_
                obtain ⟨x8, hx8, hf⟩ := dg_bind hf
                have hPc : va_P (dC, dI) vwCl [(ht_bench, .inr (1, [.ref ht_bench_drops, .ref ht_bench_from, .ref ht_bench_to, .ref ht_bench_tires, .ref ht_bench_copies, .ref ht_bench_pages, .int vt_bench_size])), (ht_bench_pages, .inl (cI, 4, .inl x7))] H := hP.sub [1, 7] rfl
                have hDc : va_D A [(ht_bench, .inr (1, [.ref ht_bench_drops, .ref ht_bench_from, .ref ht_bench_to, .ref ht_bench_tires, .ref ht_bench_copies, .ref ht_bench_pages, .int vt_bench_size])), (ht_bench_pages, .inl (cI, 4, .inl x7))] := hD.sub [1, 7] (by decide) rfl
                have hFc := va_free (wc := [(ht_bench, .inr (1, [.ref ht_bench_drops, .ref ht_bench_from, .ref ht_bench_to, .ref ht_bench_tires, .ref ht_bench_copies, .ref ht_bench_pages, .int vt_bench_size])), (ht_bench_pages, .inl (cI, 4, .inl x7))]) hD hS hA [1, 7] rfl
                refine va_calli (va_runV (As := []) (rest := [.int y3_30]) ⟨hx, hb, hml, hown, hts⟩ (k_X1_wordsOnPages l dC dI cI cJ cZ H.size ht_bench ht_bench_drops ht_bench_from ht_bench_to ht_bench_tires ht_bench_copies ht_bench_pages vt_bench_size x7 N x8 hx8) (cwV 0 hts gX5_days_X1_wordsOnPages rfl rfl rfl hd_X1_wordsOnPages ⟨Nat.le_of_ble_eq_true rfl, Nat.le_of_ble_eq_true rfl⟩) ⟨blind_pc, va_recv hK hPc (ci := 1) (q0 := 0) rfl rfl, pre_pc hPc hK hDc⟩ rfl rfl hl.1 rfl (lv_room (Nat.le_of_ble_eq_true rfl)) dX5_days_53 ⟨Nat.zero_le _, Nat.zero_le _⟩) hS (fun q _ h => hFc q h) hFc (fun r u t H1 locs eth hvm hw hB hz1 hk1 hS => ?_)
                obtain ⟨hP1, hK1, hD1⟩ := hB
                rw [eth] at hP1
                subst hw
                obtain ⟨hP, hD⟩ := va_join (wr := [(ht, .inr (4, [.ref ht_text, .ref ht_bench, .ref ht_acts, .ref ht_drawers, .ref ht_told, .ref ht_pagesOfTrial, .ref ht_kept, .int vt_spoken, .long x6.2])), (ht_bench_drops, .inl (cI, 4, .inl vt_bench_drops)), (ht_bench_from, .inl (cI, 4, .inl vt_bench_from)), (ht_bench_to, .inl (cI, 4, .inl vt_bench_to)), (ht_bench_tires, .inl (cI, 4, .inl vt_bench_tires)), (ht_bench_copies, .inl (cI, 4, .inl vt_bench_copies))]) (w1 := [(ht_bench, .inr (1, [.ref ht_bench_drops, .ref ht_bench_from, .ref ht_bench_to, .ref ht_bench_tires, .ref ht_bench_copies, .ref ht_bench_pages, .int vt_bench_size])), (ht_bench_pages, .inl (cI, 4, .inl x7))]) hP hD [1, 7] [0, 2, 3, 4, 5, 6] rfl rfl (by decide) (by decide) hk1 hFc hP1 hD1
                clear hP1 hK1 hD1 hPc hDc hFc hk1 hz1 hvm eth
                generalize H1 = H at hP hS ⊢
                have hP : va_P (dC, dI) vwCl [(ht, .inr (4, [.ref ht_text, .ref ht_bench, .ref ht_acts, .ref ht_drawers, .ref ht_told, .ref ht_pagesOfTrial, .ref ht_kept, .int vt_spoken, .long x6.2])), (ht_bench_drops, .inl (cI, 4, .inl vt_bench_drops)), (ht_bench_from, .inl (cI, 4, .inl vt_bench_from)), (ht_bench_to, .inl (cI, 4, .inl vt_bench_to)), (ht_bench_tires, .inl (cI, 4, .inl vt_bench_tires)), (ht_bench_copies, .inl (cI, 4, .inl vt_bench_copies)), (ht_bench, .inr (1, [.ref ht_bench_drops, .ref ht_bench_from, .ref ht_bench_to, .ref ht_bench_tires, .ref ht_bench_copies, .ref ht_bench_pages, .int vt_bench_size])), (ht_bench_pages, .inl (cI, 4, .inl x7))] H := hP
                have hD : va_D A [(ht, .inr (4, [.ref ht_text, .ref ht_bench, .ref ht_acts, .ref ht_drawers, .ref ht_told, .ref ht_pagesOfTrial, .ref ht_kept, .int vt_spoken, .long x6.2])), (ht_bench_drops, .inl (cI, 4, .inl vt_bench_drops)), (ht_bench_from, .inl (cI, 4, .inl vt_bench_from)), (ht_bench_to, .inl (cI, 4, .inl vt_bench_to)), (ht_bench_tires, .inl (cI, 4, .inl vt_bench_tires)), (ht_bench_copies, .inl (cI, 4, .inl vt_bench_copies)), (ht_bench, .inr (1, [.ref ht_bench_drops, .ref ht_bench_from, .ref ht_bench_to, .ref ht_bench_tires, .ref ht_bench_copies, .ref ht_bench_pages, .int vt_bench_size])), (ht_bench_pages, .inl (cI, 4, .inl x7))] := hD
                refine lv_iadd hx hb dX5_days_56 ?_
                refine lv_istore_n (lv' := [(3, .int (y3_30 + x8)), (4, .int y4_30), (0, .ref ht), (1, .int a1), (2, .int a2)]) hx hb dX5_days_57 rfl hl (by decide) rfl (fun ls hl => ?_)
                refine lv_iinc (v := (y4_30 + (1:Int32))) (lv' := [(4, .int (y4_30 + (1:Int32))), (3, .int (y3_30 + x8)), (0, .ref ht), (1, .int a1), (2, .int a2)]) hx hb dX5_days_58 hl (k := 1) rfl (by first | rfl | decide) (by decide) rfl (fun ls hl => ?_)
                refine lv_goto (tgt := 30) hx hb dX5_days_61 (by decide) ?_
                exact ih30 (y3_30 + x8) (y4_30 + (1:Int32)) x6.2 x7 _ _ _ (hP.sub (ws' := [(ht, .inr (4, [.ref ht_text, .ref ht_bench, .ref ht_acts, .ref ht_drawers, .ref ht_told, .ref ht_pagesOfTrial, .ref ht_kept, .int vt_spoken, .long x6.2])), (ht_bench, .inr (1, [.ref ht_bench_drops, .ref ht_bench_from, .ref ht_bench_to, .ref ht_bench_tires, .ref ht_bench_copies, .ref ht_bench_pages, .int vt_bench_size])), (ht_bench_drops, .inl (cI, 4, .inl vt_bench_drops)), (ht_bench_from, .inl (cI, 4, .inl vt_bench_from)), (ht_bench_to, .inl (cI, 4, .inl vt_bench_to)), (ht_bench_tires, .inl (cI, 4, .inl vt_bench_tires)), (ht_bench_copies, .inl (cI, 4, .inl vt_bench_copies)), (ht_bench_pages, .inl (cI, 4, .inl x7))]) [0, 6, 1, 2, 3, 4, 5, 7] rfl) (hD.sub (ws' := [(ht, .inr (4, [.ref ht_text, .ref ht_bench, .ref ht_acts, .ref ht_drawers, .ref ht_told, .ref ht_pagesOfTrial, .ref ht_kept, .int vt_spoken, .long x6.2])), (ht_bench, .inr (1, [.ref ht_bench_drops, .ref ht_bench_from, .ref ht_bench_to, .ref ht_bench_tires, .ref ht_bench_copies, .ref ht_bench_pages, .int vt_bench_size])), (ht_bench_drops, .inl (cI, 4, .inl vt_bench_drops)), (ht_bench_from, .inl (cI, 4, .inl vt_bench_from)), (ht_bench_to, .inl (cI, 4, .inl vt_bench_to)), (ht_bench_tires, .inl (cI, 4, .inl vt_bench_tires)), (ht_bench_copies, .inl (cI, 4, .inl vt_bench_copies)), (ht_bench_pages, .inl (cI, 4, .inl x7))]) [0, 6, 1, 2, 3, 4, 5, 7] (by decide) rfl) hS (lv_sub hl [0, 1, 2, 3, 4] rfl) hf
          exact lp30 N (0:Int32) (0:Int32) vt_nowSeed vt_bench_pages _ _ _ hP hD hS hl hf
        · replace hf := dg_f c4 hf
          refine lv_bipush (v := -2) hx hb dX5_days_22 (by decide) ?_
          have he := Option.some.inj hf
          have hP9 := hP
          have hD9 := hD
          exact W.iret (v := (-2:Int32)) hx hb hr (fun t eth hW => ⟨⟨(-2:Int32), (vt_nowSeed, vt_bench_pages), rfl, ⟨(congrArg Prod.fst he).symm, (congrArg Prod.snd he).symm⟩, by rw [eth]; exact hP9, va_K.moved hW.alike hK, hD9⟩, hS.F eth⟩) hS.2.2 dX5_days_24
theorem hd_X5_keep : yX5_keep.cls = RX5 ∧ yX5_keep.cls ≠ "java/lang/invoke/MethodHandle" ∧ yX5_keep.cls ≠ "java/lang/invoke/VarHandle" ∧ (parseMethodDescriptor yX5_keep.desc).map (fun d => d.parameters.length) = some 1 := by decide +kernel
abbrev rm_X5_keep : Room := { frames := 2, cells := 0, slots := 0, locals := 43 }
abbrev q_X5_keep (dC : Nat → ClassId) (dI : Nat → Nat → Nat) (cI cJ cZ : ClassId) (ht ht_text ht_bench ht_acts ht_drawers ht_told ht_pagesOfTrial ht_kept ht_bench_drops ht_bench_from ht_bench_to ht_bench_tires ht_bench_copies ht_bench_pages : Nat) (vt_spoken : Int32) (vt_nowSeed : Int64) (vt_bench_size : Int32) (vt_bench_from : Nat → Int32) (vt_bench_to : Nat → Int32) (vt_bench_copies : Nat → Int32) (R : Int32 × (Nat → Int64)) (A : Nat → Prop) : Array Value → State → Outcome → State → Prop := va_Qi (fun (r : Int32) (u : (Nat → Int64)) => R.1 = r ∧ R.2 = u) (fun (u : (Nat → Int64)) (t : State) => va_P (dC, dI) vwCl [(ht, .inr (4, [.ref ht_text, .ref ht_bench, .ref ht_acts, .ref ht_drawers, .ref ht_told, .ref ht_pagesOfTrial, .ref ht_kept, .int vt_spoken, .long vt_nowSeed])), (ht_bench, .inr (1, [.ref ht_bench_drops, .ref ht_bench_from, .ref ht_bench_to, .ref ht_bench_tires, .ref ht_bench_copies, .ref ht_bench_pages, .int vt_bench_size])), (ht_bench_from, .inl (cI, 4, .inl vt_bench_from)), (ht_bench_to, .inl (cI, 4, .inl vt_bench_to)), (ht_bench_copies, .inl (cI, 4, .inl vt_bench_copies)), (ht_kept, .inl (cJ, 2, .inr (.inl u)))] t.heap ∧ va_K (dC, dI) vwCl [(cI, .int), (cJ, .long), (cZ, .boolean)] t ∧ va_D A [(ht, .inr (4, [.ref ht_text, .ref ht_bench, .ref ht_acts, .ref ht_drawers, .ref ht_told, .ref ht_pagesOfTrial, .ref ht_kept, .int vt_spoken, .long vt_nowSeed])), (ht_bench, .inr (1, [.ref ht_bench_drops, .ref ht_bench_from, .ref ht_bench_to, .ref ht_bench_tires, .ref ht_bench_copies, .ref ht_bench_pages, .int vt_bench_size])), (ht_bench_from, .inl (cI, 4, .inl vt_bench_from)), (ht_bench_to, .inl (cI, 4, .inl vt_bench_to)), (ht_bench_copies, .inl (cI, 4, .inl vt_bench_copies)), (ht_kept, .inl (cJ, 2, .inr (.inl u)))]) A
set_option maxHeartbeats 4000000 in
set_option maxRecDepth 100000 in
theorem k_X5_keep (l : Launch) (dC : Nat → ClassId) (dI : Nat → Nat → Nat) (cI cJ cZ : ClassId) (sz : Nat) (ht ht_text ht_bench ht_acts ht_drawers ht_told ht_pagesOfTrial ht_kept ht_bench_drops ht_bench_from ht_bench_to ht_bench_tires ht_bench_copies ht_bench_pages : Nat) (a1 : Int32) (vt_spoken : Int32) (vt_nowSeed : Int64) (vt_bench_size : Int32) (vt_bench_from : Nat → Int32) (vt_bench_to : Nat → Int32) (vt_bench_copies : Nat → Int32) (vt_kept : Nat → Int64) (N : Nat) (R : Int32 × (Nat → Int64)) (hf : f_X5_keep N a1 vt_spoken vt_bench_from vt_bench_to vt_bench_copies vt_kept = some R) : Met l yX5_keep wsX5_keep (rm_X5_keep) (va_Pc [.ref ht, .int a1] (fun U => U.heap.size = sz ∧ va_P (dC, dI) vwCl [(ht, .inr (4, [.ref ht_text, .ref ht_bench, .ref ht_acts, .ref ht_drawers, .ref ht_told, .ref ht_pagesOfTrial, .ref ht_kept, .int vt_spoken, .long vt_nowSeed])), (ht_bench, .inr (1, [.ref ht_bench_drops, .ref ht_bench_from, .ref ht_bench_to, .ref ht_bench_tires, .ref ht_bench_copies, .ref ht_bench_pages, .int vt_bench_size])), (ht_bench_from, .inl (cI, 4, .inl vt_bench_from)), (ht_bench_to, .inl (cI, 4, .inl vt_bench_to)), (ht_bench_copies, .inl (cI, 4, .inl vt_bench_copies)), (ht_kept, .inl (cJ, 2, .inr (.inl vt_kept)))] U.heap ∧ va_K (dC, dI) vwCl [(cI, .int), (cJ, .long), (cZ, .boolean)] U ∧ va_D (fun _ => True) [(ht, .inr (4, [.ref ht_text, .ref ht_bench, .ref ht_acts, .ref ht_drawers, .ref ht_told, .ref ht_pagesOfTrial, .ref ht_kept, .int vt_spoken, .long vt_nowSeed])), (ht_bench, .inr (1, [.ref ht_bench_drops, .ref ht_bench_from, .ref ht_bench_to, .ref ht_bench_tires, .ref ht_bench_copies, .ref ht_bench_pages, .int vt_bench_size])), (ht_bench_from, .inl (cI, 4, .inl vt_bench_from)), (ht_bench_to, .inl (cI, 4, .inl vt_bench_to)), (ht_bench_copies, .inl (cI, 4, .inl vt_bench_copies)), (ht_kept, .inl (cJ, 2, .inr (.inl vt_kept)))])) (q_X5_keep dC dI cI cJ cZ ht ht_text ht_bench ht_acts ht_drawers ht_told ht_pagesOfTrial ht_kept ht_bench_drops ht_bench_from ht_bench_to ht_bench_tires ht_bench_copies ht_bench_pages vt_spoken vt_nowSeed vt_bench_size vt_bench_from vt_bench_to vt_bench_copies R (va_A [(ht, .inr (4, [.ref ht_text, .ref ht_bench, .ref ht_acts, .ref ht_drawers, .ref ht_told, .ref ht_pagesOfTrial, .ref ht_kept, .int vt_spoken, .long vt_nowSeed])), (ht_bench, .inr (1, [.ref ht_bench_drops, .ref ht_bench_from, .ref ht_bench_to, .ref ht_bench_tires, .ref ht_bench_copies, .ref ht_bench_pages, .int vt_bench_size])), (ht_bench_from, .inl (cI, 4, .inl vt_bench_from)), (ht_bench_to, .inl (cI, 4, .inl vt_bench_to)), (ht_bench_copies, .inl (cI, 4, .inl vt_bench_copies)), (ht_kept, .inl (cJ, 2, .inr (.inl vt_kept)))] sz)) 0 0 (va_A [(ht, .inr (4, [.ref ht_text, .ref ht_bench, .ref ht_acts, .ref ht_drawers, .ref ht_told, .ref ht_pagesOfTrial, .ref ht_kept, .int vt_spoken, .long vt_nowSeed])), (ht_bench, .inr (1, [.ref ht_bench_drops, .ref ht_bench_from, .ref ht_bench_to, .ref ht_bench_tires, .ref ht_bench_copies, .ref ht_bench_pages, .int vt_bench_size])), (ht_bench_from, .inl (cI, 4, .inl vt_bench_from)), (ht_bench_to, .inl (cI, 4, .inl vt_bench_to)), (ht_bench_copies, .inl (cI, 4, .inl vt_bench_copies)), (ht_kept, .inl (cJ, 2, .inr (.inl vt_kept)))] sz) := by
  refine Met.ofW (cc := cX5_keep) (maxL := 2) (ret := (some .int)) (by decide) rfl ?_
  intro p e s m args below meth c s₁ B hml hv
  obtain ⟨rfl, hsz, hP, hK, hD0⟩ := hv
  have hx := B.exec
  have hb := B.bytes
  have hr := B.returns
  have hts := atoms_spec (ws := wsX5_keep) B.pre
  have hown : s.vm.findClass RX5 = some m.cls := findClass_of_methodNamed B.named
  have hlocks := B.notSynchronized
  clear B
  subst hsz
  have hw0 := hts (.fieldLink RX5 44 "ShorthandCourt" "kept" "[J") (by decide +kernel)
  have hw1 := hts (.fieldLink RX5 50 "ShorthandCourt" "spoken" "I") (by decide +kernel)
  have hinX5 : ∀ w ∈ u_ws RX5 TX5 9, w ∈ wsX5_keep := by decide +kernel
  have hD := hD0.self (sz := s.heap.size)
  clear hD0
  generalize hAe : va_A [(ht, .inr (4, [.ref ht_text, .ref ht_bench, .ref ht_acts, .ref ht_drawers, .ref ht_told, .ref ht_pagesOfTrial, .ref ht_kept, .int vt_spoken, .long vt_nowSeed])), (ht_bench, .inr (1, [.ref ht_bench_drops, .ref ht_bench_from, .ref ht_bench_to, .ref ht_bench_tires, .ref ht_bench_copies, .ref ht_bench_pages, .int vt_bench_size])), (ht_bench_from, .inl (cI, 4, .inl vt_bench_from)), (ht_bench_to, .inl (cI, 4, .inl vt_bench_to)), (ht_bench_copies, .inl (cI, 4, .inl vt_bench_copies)), (ht_kept, .inl (cJ, 2, .inr (.inl vt_kept)))] s.heap.size = A at hD ⊢
  have hA : ∀ q : Nat, s.heap.size ≤ q → A q := fun q h => by rw [← hAe]; exact Or.inr h
  clear hAe
  have hS : va_S A s.heap s.heap [] := va_S.rf
  have hl := lv_entry ([.ref ht, .int a1]) (n := 2) (Nat.le_of_ble_eq_true rfl)
  rw [lg_entry_eq]
  generalize (lg_sl ([.ref ht, .int a1]) ++ List.replicate (2 - (lg_sl ([.ref ht, .int a1])).length) Slot.unset).toArray = ls at hl ⊢
  have hl : lv_has ls 2 [(0, .ref ht), (1, .int a1)] := hl
  unfold f_X5_keep at hf
  refine lv_iload_n hx hb dX5_keep_0 rfl (lv_at hl 1 rfl) ?_
  refine lv_if_lt (tgt := 9) hx hb dX5_keep_1 (by decide) (fun c1 => ?_) (fun c1 => ?_)
  · replace hf := dg_t c1 hf
    refine lv_iconst (v := -1) hx hb dX5_keep_9 (by decide) ?_
    have he := Option.some.inj hf
    have hP9 := hP
    have hD9 := hD
    exact W.iret (v := (-1:Int32)) hx hb hr (fun t eth hW => ⟨⟨(-1:Int32), vt_kept, rfl, ⟨(congrArg Prod.fst he).symm, (congrArg Prod.snd he).symm⟩, by rw [eth]; exact hP9, va_K.moved hW.alike hK, hD9⟩, hS.F eth⟩) hS.2.2 dX5_keep_10
  · replace hf := dg_f c1 hf
    refine lv_iload_n hx hb dX5_keep_4 rfl (lv_at hl 1 rfl) ?_
    refine lv_iconst (v := 2) hx hb dX5_keep_5 (by decide) ?_
    refine lv_icmp_lt (tgt := 11) hx hb dX5_keep_6 (by decide) (fun c2 => ?_) (fun c2 => ?_)
    · replace hf := dg_t c2 hf
      refine lv_aload_n hx hb dX5_keep_11 rfl (lv_at hl 0 rfl) ?_
      refine va_get (D := (dC, dI)) (ci := 4) (v := .ref ht_kept) (C := RX5) (T := TX5) (N := 9) hx hb hts hinX5 hown hK hP 0 rfl rfl 6 (by decide) hw0 (fun _ h9 => h9) rfl dX5_keep_12 ?_
      refine lv_iload_n hx hb dX5_keep_15 rfl (lv_at hl 1 rfl) ?_
      refine lv_aload_n hx hb dX5_keep_16 rfl (lv_at hl 0 rfl) ?_
      obtain ⟨x3, hx3, hf⟩ := dg_bind hf
      have hPc : va_P (dC, dI) vwCl [(ht, .inr (4, [.ref ht_text, .ref ht_bench, .ref ht_acts, .ref ht_drawers, .ref ht_told, .ref ht_pagesOfTrial, .ref ht_kept, .int vt_spoken, .long vt_nowSeed])), (ht_bench, .inr (1, [.ref ht_bench_drops, .ref ht_bench_from, .ref ht_bench_to, .ref ht_bench_tires, .ref ht_bench_copies, .ref ht_bench_pages, .int vt_bench_size])), (ht_bench_from, .inl (cI, 4, .inl vt_bench_from)), (ht_bench_to, .inl (cI, 4, .inl vt_bench_to)), (ht_bench_copies, .inl (cI, 4, .inl vt_bench_copies))] s.heap := hP.sub [0, 1, 2, 3, 4] rfl
      have hDc : va_D A [(ht, .inr (4, [.ref ht_text, .ref ht_bench, .ref ht_acts, .ref ht_drawers, .ref ht_told, .ref ht_pagesOfTrial, .ref ht_kept, .int vt_spoken, .long vt_nowSeed])), (ht_bench, .inr (1, [.ref ht_bench_drops, .ref ht_bench_from, .ref ht_bench_to, .ref ht_bench_tires, .ref ht_bench_copies, .ref ht_bench_pages, .int vt_bench_size])), (ht_bench_from, .inl (cI, 4, .inl vt_bench_from)), (ht_bench_to, .inl (cI, 4, .inl vt_bench_to)), (ht_bench_copies, .inl (cI, 4, .inl vt_bench_copies))] := hD.sub [0, 1, 2, 3, 4] (by decide) rfl
      have hFc := va_free (wc := [(ht, .inr (4, [.ref ht_text, .ref ht_bench, .ref ht_acts, .ref ht_drawers, .ref ht_told, .ref ht_pagesOfTrial, .ref ht_kept, .int vt_spoken, .long vt_nowSeed])), (ht_bench, .inr (1, [.ref ht_bench_drops, .ref ht_bench_from, .ref ht_bench_to, .ref ht_bench_tires, .ref ht_bench_copies, .ref ht_bench_pages, .int vt_bench_size])), (ht_bench_from, .inl (cI, 4, .inl vt_bench_from)), (ht_bench_to, .inl (cI, 4, .inl vt_bench_to)), (ht_bench_copies, .inl (cI, 4, .inl vt_bench_copies))]) hD hS hA [0, 1, 2, 3, 4] rfl
      refine va_calll (va_runV (As := []) (rest := [.int a1, .ref ht_kept]) ⟨hx, hb, hml, hown, hts⟩ (k_X5_stateNow l dC dI cI cJ cZ s.heap.size ht ht_text ht_bench ht_acts ht_drawers ht_told ht_pagesOfTrial ht_kept ht_bench_drops ht_bench_from ht_bench_to ht_bench_tires ht_bench_copies ht_bench_pages vt_spoken vt_nowSeed vt_bench_size vt_bench_from vt_bench_to vt_bench_copies N x3 hx3) (cwV 0 hts gX5_keep_X5_stateNow rfl rfl rfl hd_X5_stateNow ⟨Nat.le_of_ble_eq_true rfl, Nat.le_of_ble_eq_true rfl⟩) ⟨blind_pc, va_recv hK hPc (ci := 4) (q0 := 0) rfl rfl, pre_pc hPc hK hDc⟩ rfl rfl hl.1 rfl (lv_room (Nat.le_of_ble_eq_true rfl)) dX5_keep_17 ⟨Nat.zero_le _, Nat.zero_le _⟩) hS (fun q _ h => hFc q h) hFc (fun r u t H1 locs eth hvm hw hB hz1 hk1 hS => ?_)
      obtain ⟨hP1, hK1, hD1⟩ := hB
      rw [eth] at hP1
      subst hw
      obtain ⟨hP, hD⟩ := va_join (wr := [(ht_kept, .inl (cJ, 2, .inr (.inl vt_kept)))]) (w1 := [(ht, .inr (4, [.ref ht_text, .ref ht_bench, .ref ht_acts, .ref ht_drawers, .ref ht_told, .ref ht_pagesOfTrial, .ref ht_kept, .int vt_spoken, .long vt_nowSeed])), (ht_bench, .inr (1, [.ref ht_bench_drops, .ref ht_bench_from, .ref ht_bench_to, .ref ht_bench_tires, .ref ht_bench_copies, .ref ht_bench_pages, .int vt_bench_size])), (ht_bench_from, .inl (cI, 4, .inl vt_bench_from)), (ht_bench_to, .inl (cI, 4, .inl vt_bench_to)), (ht_bench_copies, .inl (cI, 4, .inl vt_bench_copies))]) hP hD [0, 1, 2, 3, 4] [5] rfl rfl (by decide) (by decide) hk1 hFc hP1 hD1
      clear hP1 hK1 hD1 hPc hDc hFc hk1 hz1 hvm eth
      generalize H1 = H at hP hS ⊢
      have hP : va_P (dC, dI) vwCl [(ht_kept, .inl (cJ, 2, .inr (.inl vt_kept))), (ht, .inr (4, [.ref ht_text, .ref ht_bench, .ref ht_acts, .ref ht_drawers, .ref ht_told, .ref ht_pagesOfTrial, .ref ht_kept, .int vt_spoken, .long vt_nowSeed])), (ht_bench, .inr (1, [.ref ht_bench_drops, .ref ht_bench_from, .ref ht_bench_to, .ref ht_bench_tires, .ref ht_bench_copies, .ref ht_bench_pages, .int vt_bench_size])), (ht_bench_from, .inl (cI, 4, .inl vt_bench_from)), (ht_bench_to, .inl (cI, 4, .inl vt_bench_to)), (ht_bench_copies, .inl (cI, 4, .inl vt_bench_copies))] H := hP
      have hD : va_D A [(ht_kept, .inl (cJ, 2, .inr (.inl vt_kept))), (ht, .inr (4, [.ref ht_text, .ref ht_bench, .ref ht_acts, .ref ht_drawers, .ref ht_told, .ref ht_pagesOfTrial, .ref ht_kept, .int vt_spoken, .long vt_nowSeed])), (ht_bench, .inr (1, [.ref ht_bench_drops, .ref ht_bench_from, .ref ht_bench_to, .ref ht_bench_tires, .ref ht_bench_copies, .ref ht_bench_pages, .int vt_bench_size])), (ht_bench_from, .inl (cI, 4, .inl vt_bench_from)), (ht_bench_to, .inl (cI, 4, .inl vt_bench_to)), (ht_bench_copies, .inl (cI, 4, .inl vt_bench_copies))] := hD
      obtain ⟨hi4, hf⟩ := dg_ix hf
      refine va_last hx hb hK hP hD hS 0 1 rfl rfl hi4 dX5_keep_20 (fun H locs hP hD hS => ?_)
      have hP : va_P (dC, dI) vwCl [(ht_kept, .inl (cJ, 2, .inr (.inl (vp_updL vt_kept a1.toNatClampNeg x3)))), (ht, .inr (4, [.ref ht_text, .ref ht_bench, .ref ht_acts, .ref ht_drawers, .ref ht_told, .ref ht_pagesOfTrial, .ref ht_kept, .int vt_spoken, .long vt_nowSeed])), (ht_bench, .inr (1, [.ref ht_bench_drops, .ref ht_bench_from, .ref ht_bench_to, .ref ht_bench_tires, .ref ht_bench_copies, .ref ht_bench_pages, .int vt_bench_size])), (ht_bench_from, .inl (cI, 4, .inl vt_bench_from)), (ht_bench_to, .inl (cI, 4, .inl vt_bench_to)), (ht_bench_copies, .inl (cI, 4, .inl vt_bench_copies))] H := hP
      have hD : va_D A [(ht_kept, .inl (cJ, 2, .inr (.inl (vp_updL vt_kept a1.toNatClampNeg x3)))), (ht, .inr (4, [.ref ht_text, .ref ht_bench, .ref ht_acts, .ref ht_drawers, .ref ht_told, .ref ht_pagesOfTrial, .ref ht_kept, .int vt_spoken, .long vt_nowSeed])), (ht_bench, .inr (1, [.ref ht_bench_drops, .ref ht_bench_from, .ref ht_bench_to, .ref ht_bench_tires, .ref ht_bench_copies, .ref ht_bench_pages, .int vt_bench_size])), (ht_bench_from, .inl (cI, 4, .inl vt_bench_from)), (ht_bench_to, .inl (cI, 4, .inl vt_bench_to)), (ht_bench_copies, .inl (cI, 4, .inl vt_bench_copies))] := hD
      refine lv_aload_n hx hb dX5_keep_21 rfl (lv_at hl 0 rfl) ?_
      refine va_get (D := (dC, dI)) (ci := 4) (v := .int vt_spoken) (C := RX5) (T := TX5) (N := 9) hx hb hts hinX5 hown hK hP 1 rfl rfl 7 (by decide) hw1 (fun _ h9 => h9) rfl dX5_keep_22 ?_
      obtain ⟨x5, hx5, hf⟩ := dg_bind hf
      have hPc : va_P (dC, dI) vwCl [] H := hP.sub [] rfl
      have hDc : va_D A [] := hD.sub [] (by decide) rfl
      have hFc := va_free (wc := []) hD hS hA [] rfl
      refine va_calli (va_runS (As := [.int vt_spoken]) (rest := []) ⟨hx, hb, hml, hown, hts⟩ (k_X4_wordsIn l dC dI cI cJ cZ H.size vt_spoken N x5 hx5) (va_cwS 1 hts gX5_keep_X4_wordsIn rfl rfl rfl hd_X4_wordsIn ⟨Nat.le_of_ble_eq_true rfl, Nat.le_of_ble_eq_true rfl⟩) ⟨blind_pc, pre_pc hPc hK hDc⟩ rfl rfl hl.1 rfl (lv_room (Nat.le_of_ble_eq_true rfl)) dX5_keep_25 ⟨Nat.zero_le _, Nat.zero_le _⟩) hS (fun q _ h => hFc q h) hFc (fun r u t H1 locs eth hvm hw hB hz1 hk1 hS => ?_)
      obtain ⟨hP1, hK1, hD1⟩ := hB
      rw [eth] at hP1
      subst hw
      obtain ⟨hP, hD⟩ := va_join (wr := [(ht_kept, .inl (cJ, 2, .inr (.inl (vp_updL vt_kept a1.toNatClampNeg x3)))), (ht, .inr (4, [.ref ht_text, .ref ht_bench, .ref ht_acts, .ref ht_drawers, .ref ht_told, .ref ht_pagesOfTrial, .ref ht_kept, .int vt_spoken, .long vt_nowSeed])), (ht_bench, .inr (1, [.ref ht_bench_drops, .ref ht_bench_from, .ref ht_bench_to, .ref ht_bench_tires, .ref ht_bench_copies, .ref ht_bench_pages, .int vt_bench_size])), (ht_bench_from, .inl (cI, 4, .inl vt_bench_from)), (ht_bench_to, .inl (cI, 4, .inl vt_bench_to)), (ht_bench_copies, .inl (cI, 4, .inl vt_bench_copies))]) (w1 := []) hP hD [] [0, 1, 2, 3, 4, 5] rfl rfl (by decide) (by decide) hk1 hFc hP1 hD1
      clear hP1 hK1 hD1 hPc hDc hFc hk1 hz1 hvm eth
      generalize H1 = H at hP hS ⊢
      have hP : va_P (dC, dI) vwCl [(ht_kept, .inl (cJ, 2, .inr (.inl (vp_updL vt_kept a1.toNatClampNeg x3)))), (ht, .inr (4, [.ref ht_text, .ref ht_bench, .ref ht_acts, .ref ht_drawers, .ref ht_told, .ref ht_pagesOfTrial, .ref ht_kept, .int vt_spoken, .long vt_nowSeed])), (ht_bench, .inr (1, [.ref ht_bench_drops, .ref ht_bench_from, .ref ht_bench_to, .ref ht_bench_tires, .ref ht_bench_copies, .ref ht_bench_pages, .int vt_bench_size])), (ht_bench_from, .inl (cI, 4, .inl vt_bench_from)), (ht_bench_to, .inl (cI, 4, .inl vt_bench_to)), (ht_bench_copies, .inl (cI, 4, .inl vt_bench_copies))] H := hP
      have hD : va_D A [(ht_kept, .inl (cJ, 2, .inr (.inl (vp_updL vt_kept a1.toNatClampNeg x3)))), (ht, .inr (4, [.ref ht_text, .ref ht_bench, .ref ht_acts, .ref ht_drawers, .ref ht_told, .ref ht_pagesOfTrial, .ref ht_kept, .int vt_spoken, .long vt_nowSeed])), (ht_bench, .inr (1, [.ref ht_bench_drops, .ref ht_bench_from, .ref ht_bench_to, .ref ht_bench_tires, .ref ht_bench_copies, .ref ht_bench_pages, .int vt_bench_size])), (ht_bench_from, .inl (cI, 4, .inl vt_bench_from)), (ht_bench_to, .inl (cI, 4, .inl vt_bench_to)), (ht_bench_copies, .inl (cI, 4, .inl vt_bench_copies))] := hD
      have he := Option.some.inj hf
      have hP9 := (hP.sub (ws' := [(ht, .inr (4, [.ref ht_text, .ref ht_bench, .ref ht_acts, .ref ht_drawers, .ref ht_told, .ref ht_pagesOfTrial, .ref ht_kept, .int vt_spoken, .long vt_nowSeed])), (ht_bench, .inr (1, [.ref ht_bench_drops, .ref ht_bench_from, .ref ht_bench_to, .ref ht_bench_tires, .ref ht_bench_copies, .ref ht_bench_pages, .int vt_bench_size])), (ht_bench_from, .inl (cI, 4, .inl vt_bench_from)), (ht_bench_to, .inl (cI, 4, .inl vt_bench_to)), (ht_bench_copies, .inl (cI, 4, .inl vt_bench_copies)), (ht_kept, .inl (cJ, 2, .inr (.inl (vp_updL vt_kept a1.toNatClampNeg x3))))]) [1, 2, 3, 4, 5, 0] rfl)
      have hD9 := (hD.sub (ws' := [(ht, .inr (4, [.ref ht_text, .ref ht_bench, .ref ht_acts, .ref ht_drawers, .ref ht_told, .ref ht_pagesOfTrial, .ref ht_kept, .int vt_spoken, .long vt_nowSeed])), (ht_bench, .inr (1, [.ref ht_bench_drops, .ref ht_bench_from, .ref ht_bench_to, .ref ht_bench_tires, .ref ht_bench_copies, .ref ht_bench_pages, .int vt_bench_size])), (ht_bench_from, .inl (cI, 4, .inl vt_bench_from)), (ht_bench_to, .inl (cI, 4, .inl vt_bench_to)), (ht_bench_copies, .inl (cI, 4, .inl vt_bench_copies)), (ht_kept, .inl (cJ, 2, .inr (.inl (vp_updL vt_kept a1.toNatClampNeg x3))))]) [1, 2, 3, 4, 5, 0] (by decide) rfl)
      exact W.iret (v := x5) hx hb hr (fun t eth hW => ⟨⟨x5, (vp_updL vt_kept a1.toNatClampNeg x3), rfl, ⟨(congrArg Prod.fst he).symm, (congrArg Prod.snd he).symm⟩, by rw [eth]; exact hP9, va_K.moved hW.alike hK, hD9⟩, hS.F eth⟩) hS.2.2 dX5_keep_28
    · replace hf := dg_f c2 hf
      refine lv_iconst (v := -1) hx hb dX5_keep_9 (by decide) ?_
      have he := Option.some.inj hf
      have hP9 := hP
      have hD9 := hD
      exact W.iret (v := (-1:Int32)) hx hb hr (fun t eth hW => ⟨⟨(-1:Int32), vt_kept, rfl, ⟨(congrArg Prod.fst he).symm, (congrArg Prod.snd he).symm⟩, by rw [eth]; exact hP9, va_K.moved hW.alike hK, hD9⟩, hS.F eth⟩) hS.2.2 dX5_keep_10
