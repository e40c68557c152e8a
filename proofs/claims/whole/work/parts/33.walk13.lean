theorem hd_X5_again : yX5_again.cls = RX5 ∧ yX5_again.cls ≠ "java/lang/invoke/MethodHandle" ∧ yX5_again.cls ≠ "java/lang/invoke/VarHandle" ∧ (parseMethodDescriptor yX5_again.desc).map (fun d => d.parameters.length) = some 1 := by decide +kernel
abbrev rm_X5_again : Room := { frames := 2, cells := 0, slots := 0, locals := 46 }
abbrev q_X5_again (dC : Nat → ClassId) (dI : Nat → Nat → Nat) (cI cJ cZ : ClassId) (ht ht_text ht_bench ht_acts ht_drawers ht_told ht_pagesOfTrial ht_kept ht_bench_drops ht_bench_from ht_bench_to ht_bench_tires ht_bench_copies ht_bench_pages ht_acts_before : Nat) (vt_nowSeed : Int64) (vt_bench_size : Int32) (vt_kept : Nat → Int64) (R : Int32 × Int32 × (Nat → Int32) × (Nat → Int32) × (Nat → Int32) × Int32) (A : Nat → Prop) : Array Value → State → Outcome → State → Prop := va_Qi (fun (r : Int32) (u : Int32 × (Nat → Int32) × (Nat → Int32) × (Nat → Int32) × Int32) => R.1 = r ∧ R.2 = u) (fun (u : Int32 × (Nat → Int32) × (Nat → Int32) × (Nat → Int32) × Int32) (t : State) => va_P (dC, dI) vwCl [(ht, .inr (4, [.ref ht_text, .ref ht_bench, .ref ht_acts, .ref ht_drawers, .ref ht_told, .ref ht_pagesOfTrial, .ref ht_kept, .int u.1, .long vt_nowSeed])), (ht_bench, .inr (1, [.ref ht_bench_drops, .ref ht_bench_from, .ref ht_bench_to, .ref ht_bench_tires, .ref ht_bench_copies, .ref ht_bench_pages, .int vt_bench_size])), (ht_bench_from, .inl (cI, 4, .inl u.2.1)), (ht_bench_to, .inl (cI, 4, .inl u.2.2.1)), (ht_bench_copies, .inl (cI, 4, .inl u.2.2.2.1)), (ht_acts, .inr (0, [.ref ht_acts_before, .int u.2.2.2.2])), (ht_kept, .inl (cJ, 2, .inr (.inl vt_kept)))] t.heap ∧ va_K (dC, dI) vwCl [(cI, .int), (cJ, .long), (cZ, .boolean)] t ∧ va_D A [(ht, .inr (4, [.ref ht_text, .ref ht_bench, .ref ht_acts, .ref ht_drawers, .ref ht_told, .ref ht_pagesOfTrial, .ref ht_kept, .int u.1, .long vt_nowSeed])), (ht_bench, .inr (1, [.ref ht_bench_drops, .ref ht_bench_from, .ref ht_bench_to, .ref ht_bench_tires, .ref ht_bench_copies, .ref ht_bench_pages, .int vt_bench_size])), (ht_bench_from, .inl (cI, 4, .inl u.2.1)), (ht_bench_to, .inl (cI, 4, .inl u.2.2.1)), (ht_bench_copies, .inl (cI, 4, .inl u.2.2.2.1)), (ht_acts, .inr (0, [.ref ht_acts_before, .int u.2.2.2.2])), (ht_kept, .inl (cJ, 2, .inr (.inl vt_kept)))]) A
set_option maxHeartbeats 4000000 in
set_option maxRecDepth 100000 in
theorem k_X5_again (l : Launch) (dC : Nat → ClassId) (dI : Nat → Nat → Nat) (cI cJ cZ : ClassId) (sz : Nat) (ht ht_text ht_bench ht_acts ht_drawers ht_told ht_pagesOfTrial ht_kept ht_bench_drops ht_bench_from ht_bench_to ht_bench_tires ht_bench_copies ht_bench_pages ht_acts_before : Nat) (a1 : Int32) (vt_spoken : Int32) (vt_nowSeed : Int64) (vt_bench_size : Int32) (vt_bench_from : Nat → Int32) (vt_bench_to : Nat → Int32) (vt_bench_copies : Nat → Int32) (vt_acts_size : Int32) (vt_kept : Nat → Int64) (N : Nat) (R : Int32 × Int32 × (Nat → Int32) × (Nat → Int32) × (Nat → Int32) × Int32) (hf : f_X5_again N a1 vt_spoken vt_bench_from vt_bench_to vt_bench_copies vt_acts_size vt_kept = some R) : Met l yX5_again wsX5_again (rm_X5_again) (va_Pc [.ref ht, .int a1] (fun U => U.heap.size = sz ∧ va_P (dC, dI) vwCl [(ht, .inr (4, [.ref ht_text, .ref ht_bench, .ref ht_acts, .ref ht_drawers, .ref ht_told, .ref ht_pagesOfTrial, .ref ht_kept, .int vt_spoken, .long vt_nowSeed])), (ht_bench, .inr (1, [.ref ht_bench_drops, .ref ht_bench_from, .ref ht_bench_to, .ref ht_bench_tires, .ref ht_bench_copies, .ref ht_bench_pages, .int vt_bench_size])), (ht_bench_from, .inl (cI, 4, .inl vt_bench_from)), (ht_bench_to, .inl (cI, 4, .inl vt_bench_to)), (ht_bench_copies, .inl (cI, 4, .inl vt_bench_copies)), (ht_acts, .inr (0, [.ref ht_acts_before, .int vt_acts_size])), (ht_kept, .inl (cJ, 2, .inr (.inl vt_kept)))] U.heap ∧ va_K (dC, dI) vwCl [(cI, .int), (cJ, .long), (cZ, .boolean)] U ∧ va_D (fun _ => True) [(ht, .inr (4, [.ref ht_text, .ref ht_bench, .ref ht_acts, .ref ht_drawers, .ref ht_told, .ref ht_pagesOfTrial, .ref ht_kept, .int vt_spoken, .long vt_nowSeed])), (ht_bench, .inr (1, [.ref ht_bench_drops, .ref ht_bench_from, .ref ht_bench_to, .ref ht_bench_tires, .ref ht_bench_copies, .ref ht_bench_pages, .int vt_bench_size])), (ht_bench_from, .inl (cI, 4, .inl vt_bench_from)), (ht_bench_to, .inl (cI, 4, .inl vt_bench_to)), (ht_bench_copies, .inl (cI, 4, .inl vt_bench_copies)), (ht_acts, .inr (0, [.ref ht_acts_before, .int vt_acts_size])), (ht_kept, .inl (cJ, 2, .inr (.inl vt_kept)))])) (q_X5_again dC dI cI cJ cZ ht ht_text ht_bench ht_acts ht_drawers ht_told ht_pagesOfTrial ht_kept ht_bench_drops ht_bench_from ht_bench_to ht_bench_tires ht_bench_copies ht_bench_pages ht_acts_before vt_nowSeed vt_bench_size vt_kept R (va_A [(ht, .inr (4, [.ref ht_text, .ref ht_bench, .ref ht_acts, .ref ht_drawers, .ref ht_told, .ref ht_pagesOfTrial, .ref ht_kept, .int vt_spoken, .long vt_nowSeed])), (ht_bench, .inr (1, [.ref ht_bench_drops, .ref ht_bench_from, .ref ht_bench_to, .ref ht_bench_tires, .ref ht_bench_copies, .ref ht_bench_pages, .int vt_bench_size])), (ht_bench_from, .inl (cI, 4, .inl vt_bench_from)), (ht_bench_to, .inl (cI, 4, .inl vt_bench_to)), (ht_bench_copies, .inl (cI, 4, .inl vt_bench_copies)), (ht_acts, .inr (0, [.ref ht_acts_before, .int vt_acts_size])), (ht_kept, .inl (cJ, 2, .inr (.inl vt_kept)))] sz)) 0 0 (va_A [(ht, .inr (4, [.ref ht_text, .ref ht_bench, .ref ht_acts, .ref ht_drawers, .ref ht_told, .ref ht_pagesOfTrial, .ref ht_kept, .int vt_spoken, .long vt_nowSeed])), (ht_bench, .inr (1, [.ref ht_bench_drops, .ref ht_bench_from, .ref ht_bench_to, .ref ht_bench_tires, .ref ht_bench_copies, .ref ht_bench_pages, .int vt_bench_size])), (ht_bench_from, .inl (cI, 4, .inl vt_bench_from)), (ht_bench_to, .inl (cI, 4, .inl vt_bench_to)), (ht_bench_copies, .inl (cI, 4, .inl vt_bench_copies)), (ht_acts, .inr (0, [.ref ht_acts_before, .int vt_acts_size])), (ht_kept, .inl (cJ, 2, .inr (.inl vt_kept)))] sz) := by
  refine Met.ofW (cc := cX5_again) (maxL := 2) (ret := (some .int)) (by decide) rfl ?_
  intro p e s m args below meth c s₁ B hml hv
  obtain ⟨rfl, hsz, hP, hK, hD0⟩ := hv
  have hx := B.exec
  have hb := B.bytes
  have hr := B.returns
  have hts := atoms_spec (ws := wsX5_again) B.pre
  have hown : s.vm.findClass RX5 = some m.cls := findClass_of_methodNamed B.named
  have hlocks := B.notSynchronized
  clear B
  subst hsz
  have hw0 := hts (.fieldLink RX5 44 "ShorthandCourt" "kept" "[J") (by decide +kernel)
  have hw1 := hts (.fieldLink RX5 26 "ShorthandCourt" "acts" "LShorthandCourt$ActRow;") (by decide +kernel)
  have hw2 := hts (.fieldLink RX5 73 "ShorthandCourt$ActRow" "size" "I") (by decide +kernel)
  have hw3 := hts (.fieldLink RX5 50 "ShorthandCourt" "spoken" "I") (by decide +kernel)
  have hinX0 : ∀ w ∈ u_ws RX0 TX0 2, w ∈ wsX5_again := by decide +kernel
  have hinX5 : ∀ w ∈ u_ws RX5 TX5 9, w ∈ wsX5_again := by decide +kernel
  have hD := hD0.self (sz := s.heap.size)
  clear hD0
  generalize hAe : va_A [(ht, .inr (4, [.ref ht_text, .ref ht_bench, .ref ht_acts, .ref ht_drawers, .ref ht_told, .ref ht_pagesOfTrial, .ref ht_kept, .int vt_spoken, .long vt_nowSeed])), (ht_bench, .inr (1, [.ref ht_bench_drops, .ref ht_bench_from, .ref ht_bench_to, .ref ht_bench_tires, .ref ht_bench_copies, .ref ht_bench_pages, .int vt_bench_size])), (ht_bench_from, .inl (cI, 4, .inl vt_bench_from)), (ht_bench_to, .inl (cI, 4, .inl vt_bench_to)), (ht_bench_copies, .inl (cI, 4, .inl vt_bench_copies)), (ht_acts, .inr (0, [.ref ht_acts_before, .int vt_acts_size])), (ht_kept, .inl (cJ, 2, .inr (.inl vt_kept)))] s.heap.size = A at hD ⊢
  have hA : ∀ q : Nat, s.heap.size ≤ q → A q := fun q h => by rw [← hAe]; exact Or.inr h
  clear hAe
  have hS : va_S A s.heap s.heap [] := va_S.rf
  have hl := lv_entry ([.ref ht, .int a1]) (n := 2) (Nat.le_of_ble_eq_true rfl)
  rw [lg_entry_eq]
  generalize (lg_sl ([.ref ht, .int a1]) ++ List.replicate (2 - (lg_sl ([.ref ht, .int a1])).length) Slot.unset).toArray = ls at hl ⊢
  have hl : lv_has ls 2 [(0, .ref ht), (1, .int a1)] := hl
  unfold f_X5_again at hf
  refine lv_iload_n hx hb dX5_again_0 rfl (lv_at hl 1 rfl) ?_
  refine lv_if_lt (tgt := 9) hx hb dX5_again_1 (by decide) (fun c1 => ?_) (fun c1 => ?_)
  · replace hf := dg_t c1 hf
    refine lv_iconst (v := -1) hx hb dX5_again_9 (by decide) ?_
    have he := Option.some.inj hf
    have hP9 := hP
    have hD9 := hD
    exact W.iret (v := (-1:Int32)) hx hb hr (fun t eth hW => ⟨⟨(-1:Int32), (vt_spoken, vt_bench_from, vt_bench_to, vt_bench_copies, vt_acts_size), rfl, ⟨(congrArg Prod.fst he).symm, (congrArg Prod.snd he).symm⟩, by rw [eth]; exact hP9, va_K.moved hW.alike hK, hD9⟩, hS.F eth⟩) hS.2.2 dX5_again_10
  · replace hf := dg_f c1 hf
    refine lv_iload_n hx hb dX5_again_4 rfl (lv_at hl 1 rfl) ?_
    refine lv_iconst (v := 2) hx hb dX5_again_5 (by decide) ?_
    refine lv_icmp_lt (tgt := 11) hx hb dX5_again_6 (by decide) (fun c2 => ?_) (fun c2 => ?_)
    · replace hf := dg_t c2 hf
      refine lv_aload_n hx hb dX5_again_11 rfl (lv_at hl 0 rfl) ?_
      refine va_get (D := (dC, dI)) (ci := 4) (v := .ref ht_kept) (C := RX5) (T := TX5) (N := 9) hx hb hts hinX5 hown hK hP 0 rfl rfl 6 (by decide) hw0 (fun _ h9 => h9) rfl dX5_again_12 ?_
      refine lv_iload_n hx hb dX5_again_15 rfl (lv_at hl 1 rfl) ?_
      obtain ⟨hi3, hf⟩ := dg_ix hf
      refine va_lald hx hb hK hP 6 1 rfl rfl hi3 dX5_again_16 ?_
      refine lv_lconst (v := 0) hx hb dX5_again_17 (by decide) ?_
      refine W.lcmp hx hb dX5_again_18 ?_
      refine lv_if_ne (tgt := 25) hx hb dX5_again_19 (by decide) (fun c4 => ?_) (fun c4 => ?_)
      · replace hf := dg_f c4 hf
        refine lv_aload_n hx hb dX5_again_25 rfl (lv_at hl 0 rfl) ?_
        refine lv_aload_n hx hb dX5_again_26 rfl (lv_at hl 0 rfl) ?_
        refine va_get (D := (dC, dI)) (ci := 4) (v := .ref ht_kept) (C := RX5) (T := TX5) (N := 9) hx hb hts hinX5 hown hK hP 0 rfl rfl 6 (by decide) hw0 (fun _ h9 => h9) rfl dX5_again_27 ?_
        refine lv_iload_n hx hb dX5_again_30 rfl (lv_at hl 1 rfl) ?_
        obtain ⟨hi5, hf⟩ := dg_ix hf
        refine va_lald hx hb hK hP 6 1 rfl rfl hi5 dX5_again_31 ?_
        obtain ⟨x6, hx6, hf⟩ := dg_bind hf
        have hPc : va_P (dC, dI) vwCl [(ht, .inr (4, [.ref ht_text, .ref ht_bench, .ref ht_acts, .ref ht_drawers, .ref ht_told, .ref ht_pagesOfTrial, .ref ht_kept, .int vt_spoken, .long vt_nowSeed])), (ht_bench, .inr (1, [.ref ht_bench_drops, .ref ht_bench_from, .ref ht_bench_to, .ref ht_bench_tires, .ref ht_bench_copies, .ref ht_bench_pages, .int vt_bench_size])), (ht_bench_from, .inl (cI, 4, .inl vt_bench_from)), (ht_bench_to, .inl (cI, 4, .inl vt_bench_to)), (ht_bench_copies, .inl (cI, 4, .inl vt_bench_copies))] s.heap := hP.sub [0, 1, 2, 3, 4] rfl
        have hDc : va_D A [(ht, .inr (4, [.ref ht_text, .ref ht_bench, .ref ht_acts, .ref ht_drawers, .ref ht_told, .ref ht_pagesOfTrial, .ref ht_kept, .int vt_spoken, .long vt_nowSeed])), (ht_bench, .inr (1, [.ref ht_bench_drops, .ref ht_bench_from, .ref ht_bench_to, .ref ht_bench_tires, .ref ht_bench_copies, .ref ht_bench_pages, .int vt_bench_size])), (ht_bench_from, .inl (cI, 4, .inl vt_bench_from)), (ht_bench_to, .inl (cI, 4, .inl vt_bench_to)), (ht_bench_copies, .inl (cI, 4, .inl vt_bench_copies))] := hD.sub [0, 1, 2, 3, 4] (by decide) rfl
        have hFc := va_free (wc := [(ht, .inr (4, [.ref ht_text, .ref ht_bench, .ref ht_acts, .ref ht_drawers, .ref ht_told, .ref ht_pagesOfTrial, .ref ht_kept, .int vt_spoken, .long vt_nowSeed])), (ht_bench, .inr (1, [.ref ht_bench_drops, .ref ht_bench_from, .ref ht_bench_to, .ref ht_bench_tires, .ref ht_bench_copies, .ref ht_bench_pages, .int vt_bench_size])), (ht_bench_from, .inl (cI, 4, .inl vt_bench_from)), (ht_bench_to, .inl (cI, 4, .inl vt_bench_to)), (ht_bench_copies, .inl (cI, 4, .inl vt_bench_copies))]) hD hS hA [0, 1, 2, 3, 4] rfl
        refine va_callv (va_runV (As := [.long (vt_kept a1.toNatClampNeg)]) (rest := []) ⟨hx, hb, hml, hown, hts⟩ (k_X5_goBackTo l dC dI cI cJ cZ s.heap.size ht ht_text ht_bench ht_acts ht_drawers ht_told ht_pagesOfTrial ht_kept ht_bench_drops ht_bench_from ht_bench_to ht_bench_tires ht_bench_copies ht_bench_pages (vt_kept a1.toNatClampNeg) vt_spoken vt_nowSeed vt_bench_size vt_bench_from vt_bench_to vt_bench_copies N x6 hx6) (cwV 1 hts gX5_again_X5_goBackTo rfl rfl rfl hd_X5_goBackTo ⟨Nat.le_of_ble_eq_true rfl, Nat.le_of_ble_eq_true rfl⟩) ⟨blind_pc, va_recv hK hPc (ci := 4) (q0 := 0) rfl rfl, pre_pc hPc hK hDc⟩ rfl rfl hl.1 rfl (lv_room (Nat.le_of_ble_eq_true rfl)) dX5_again_32 ⟨Nat.zero_le _, Nat.zero_le _⟩) hS (fun q _ h => hFc q h) hFc (fun u t H1 locs eth hvm hw hB hz1 hk1 hS => ?_)
        obtain ⟨hP1, hK1, hD1⟩ := hB
        rw [eth] at hP1
        subst hw
        obtain ⟨hP, hD⟩ := va_join (wr := [(ht_acts, .inr (0, [.ref ht_acts_before, .int vt_acts_size])), (ht_kept, .inl (cJ, 2, .inr (.inl vt_kept)))]) (w1 := [(ht, .inr (4, [.ref ht_text, .ref ht_bench, .ref ht_acts, .ref ht_drawers, .ref ht_told, .ref ht_pagesOfTrial, .ref ht_kept, .int x6.1, .long vt_nowSeed])), (ht_bench, .inr (1, [.ref ht_bench_drops, .ref ht_bench_from, .ref ht_bench_to, .ref ht_bench_tires, .ref ht_bench_copies, .ref ht_bench_pages, .int vt_bench_size])), (ht_bench_from, .inl (cI, 4, .inl x6.2.1)), (ht_bench_to, .inl (cI, 4, .inl x6.2.2.1)), (ht_bench_copies, .inl (cI, 4, .inl x6.2.2.2))]) hP hD [0, 1, 2, 3, 4] [5, 6] rfl rfl (by decide) (by decide) hk1 hFc hP1 hD1
        clear hP1 hK1 hD1 hPc hDc hFc hk1 hz1 hvm eth
        generalize H1 = H at hP hS ⊢
        have hP : va_P (dC, dI) vwCl [(ht_acts, .inr (0, [.ref ht_acts_before, .int vt_acts_size])), (ht_kept, .inl (cJ, 2, .inr (.inl vt_kept))), (ht, .inr (4, [.ref ht_text, .ref ht_bench, .ref ht_acts, .ref ht_drawers, .ref ht_told, .ref ht_pagesOfTrial, .ref ht_kept, .int x6.1, .long vt_nowSeed])), (ht_bench, .inr (1, [.ref ht_bench_drops, .ref ht_bench_from, .ref ht_bench_to, .ref ht_bench_tires, .ref ht_bench_copies, .ref ht_bench_pages, .int vt_bench_size])), (ht_bench_from, .inl (cI, 4, .inl x6.2.1)), (ht_bench_to, .inl (cI, 4, .inl x6.2.2.1)), (ht_bench_copies, .inl (cI, 4, .inl x6.2.2.2))] H := hP
        have hD : va_D A [(ht_acts, .inr (0, [.ref ht_acts_before, .int vt_acts_size])), (ht_kept, .inl (cJ, 2, .inr (.inl vt_kept))), (ht, .inr (4, [.ref ht_text, .ref ht_bench, .ref ht_acts, .ref ht_drawers, .ref ht_told, .ref ht_pagesOfTrial, .ref ht_kept, .int x6.1, .long vt_nowSeed])), (ht_bench, .inr (1, [.ref ht_bench_drops, .ref ht_bench_from, .ref ht_bench_to, .ref ht_bench_tires, .ref ht_bench_copies, .ref ht_bench_pages, .int vt_bench_size])), (ht_bench_from, .inl (cI, 4, .inl x6.2.1)), (ht_bench_to, .inl (cI, 4, .inl x6.2.2.1)), (ht_bench_copies, .inl (cI, 4, .inl x6.2.2.2))] := hD
        refine lv_aload_n hx hb dX5_again_35 rfl (lv_at hl 0 rfl) ?_
        refine va_get (D := (dC, dI)) (ci := 4) (v := .ref ht_acts) (C := RX5) (T := TX5) (N := 9) hx hb hts hinX5 hown hK hP 2 rfl rfl 2 (by decide) hw1 (fun _ h9 => h9) rfl dX5_again_36 ?_
        refine lv_iconst (v := 0) hx hb dX5_again_39 (by decide) ?_
        refine va_put (D := (dC, dI)) (ci := 0) (v := .int (0:Int32)) (ty := .int) (C := RX0) (T := TX0) (N := 2) hx hb hts hinX0 tyX0 tyX0_ok nmX0 hown hK hP hD hS 0 rfl rfl 1 (by decide) hw2 (fun _ h9 => h9) rfl (by decide +kernel) rfl rfl (Nat.le_of_ble_eq_true rfl) dX5_again_40 (fun H locs hP hD hS => ?_)
        have hP : va_P (dC, dI) vwCl [(ht_acts, .inr (0, [.ref ht_acts_before, .int (0:Int32)])), (ht_kept, .inl (cJ, 2, .inr (.inl vt_kept))), (ht, .inr (4, [.ref ht_text, .ref ht_bench, .ref ht_acts, .ref ht_drawers, .ref ht_told, .ref ht_pagesOfTrial, .ref ht_kept, .int x6.1, .long vt_nowSeed])), (ht_bench, .inr (1, [.ref ht_bench_drops, .ref ht_bench_from, .ref ht_bench_to, .ref ht_bench_tires, .ref ht_bench_copies, .ref ht_bench_pages, .int vt_bench_size])), (ht_bench_from, .inl (cI, 4, .inl x6.2.1)), (ht_bench_to, .inl (cI, 4, .inl x6.2.2.1)), (ht_bench_copies, .inl (cI, 4, .inl x6.2.2.2))] H := hP
        have hD : va_D A [(ht_acts, .inr (0, [.ref ht_acts_before, .int (0:Int32)])), (ht_kept, .inl (cJ, 2, .inr (.inl vt_kept))), (ht, .inr (4, [.ref ht_text, .ref ht_bench, .ref ht_acts, .ref ht_drawers, .ref ht_told, .ref ht_pagesOfTrial, .ref ht_kept, .int x6.1, .long vt_nowSeed])), (ht_bench, .inr (1, [.ref ht_bench_drops, .ref ht_bench_from, .ref ht_bench_to, .ref ht_bench_tires, .ref ht_bench_copies, .ref ht_bench_pages, .int vt_bench_size])), (ht_bench_from, .inl (cI, 4, .inl x6.2.1)), (ht_bench_to, .inl (cI, 4, .inl x6.2.2.1)), (ht_bench_copies, .inl (cI, 4, .inl x6.2.2.2))] := hD
        refine lv_aload_n hx hb dX5_again_43 rfl (lv_at hl 0 rfl) ?_
        refine va_get (D := (dC, dI)) (ci := 4) (v := .int x6.1) (C := RX5) (T := TX5) (N := 9) hx hb hts hinX5 hown hK hP 2 rfl rfl 7 (by decide) hw3 (fun _ h9 => h9) rfl dX5_again_44 ?_
        obtain ⟨x7, hx7, hf⟩ := dg_bind hf
        have hPc : va_P (dC, dI) vwCl [] H := hP.sub [] rfl
        have hDc : va_D A [] := hD.sub [] (by decide) rfl
        have hFc := va_free (wc := []) hD hS hA [] rfl
        refine va_calli (va_runS (As := [.int x6.1]) (rest := []) ⟨hx, hb, hml, hown, hts⟩ (k_X4_wordsIn l dC dI cI cJ cZ H.size x6.1 N x7 hx7) (va_cwS 1 hts gX5_again_X4_wordsIn rfl rfl rfl hd_X4_wordsIn ⟨Nat.le_of_ble_eq_true rfl, Nat.le_of_ble_eq_true rfl⟩) ⟨blind_pc, pre_pc hPc hK hDc⟩ rfl rfl hl.1 rfl (lv_room (Nat.le_of_ble_eq_true rfl)) dX5_again_47 ⟨Nat.zero_le _, Nat.zero_le _⟩) hS (fun q _ h => hFc q h) hFc (fun r u t H1 locs eth hvm hw hB hz1 hk1 hS => ?_)
        obtain ⟨hP1, hK1, hD1⟩ := hB
        rw [eth] at hP1
        subst hw
        obtain ⟨hP, hD⟩ := va_join (wr := [(ht_acts, .inr (0, [.ref ht_acts_before, .int (0:Int32)])), (ht_kept, .inl (cJ, 2, .inr (.inl vt_kept))), (ht, .inr (4, [.ref ht_text, .ref ht_bench, .ref ht_acts, .ref ht_drawers, .ref ht_told, .ref ht_pagesOfTrial, .ref ht_kept, .int x6.1, .long vt_nowSeed])), (ht_bench, .inr (1, [.ref ht_bench_drops, .ref ht_bench_from, .ref ht_bench_to, .ref ht_bench_tires, .ref ht_bench_copies, .ref ht_bench_pages, .int vt_bench_size])), (ht_bench_from, .inl (cI, 4, .inl x6.2.1)), (ht_bench_to, .inl (cI, 4, .inl x6.2.2.1)), (ht_bench_copies, .inl (cI, 4, .inl x6.2.2.2))]) (w1 := []) hP hD [] [0, 1, 2, 3, 4, 5, 6] rfl rfl (by decide) (by decide) hk1 hFc hP1 hD1
        clear hP1 hK1 hD1 hPc hDc hFc hk1 hz1 hvm eth
        generalize H1 = H at hP hS ⊢
        have hP : va_P (dC, dI) vwCl [(ht_acts, .inr (0, [.ref ht_acts_before, .int (0:Int32)])), (ht_kept, .inl (cJ, 2, .inr (.inl vt_kept))), (ht, .inr (4, [.ref ht_text, .ref ht_bench, .ref ht_acts, .ref ht_drawers, .ref ht_told, .ref ht_pagesOfTrial, .ref ht_kept, .int x6.1, .long vt_nowSeed])), (ht_bench, .inr (1, [.ref ht_bench_drops, .ref ht_bench_from, .ref ht_bench_to, .ref ht_bench_tires, .ref ht_bench_copies, .ref ht_bench_pages, .int vt_bench_size])), (ht_bench_from, .inl (cI, 4, .inl x6.2.1)), (ht_bench_to, .inl (cI, 4, .inl x6.2.2.1)), (ht_bench_copies, .inl (cI, 4, .inl x6.2.2.2))] H := hP
        have hD : va_D A [(ht_acts, .inr (0, [.ref ht_acts_before, .int (0:Int32)])), (ht_kept, .inl (cJ, 2, .inr (.inl vt_kept))), (ht, .inr (4, [.ref ht_text, .ref ht_bench, .ref ht_acts, .ref ht_drawers, .ref ht_told, .ref ht_pagesOfTrial, .ref ht_kept, .int x6.1, .long vt_nowSeed])), (ht_bench, .inr (1, [.ref ht_bench_drops, .ref ht_bench_from, .ref ht_bench_to, .ref ht_bench_tires, .ref ht_bench_copies, .ref ht_bench_pages, .int vt_bench_size])), (ht_bench_from, .inl (cI, 4, .inl x6.2.1)), (ht_bench_to, .inl (cI, 4, .inl x6.2.2.1)), (ht_bench_copies, .inl (cI, 4, .inl x6.2.2.2))] := hD
        have he := Option.some.inj hf
        have hP9 := (hP.sub (ws' := [(ht, .inr (4, [.ref ht_text, .ref ht_bench, .ref ht_acts, .ref ht_drawers, .ref ht_told, .ref ht_pagesOfTrial, .ref ht_kept, .int x6.1, .long vt_nowSeed])), (ht_bench, .inr (1, [.ref ht_bench_drops, .ref ht_bench_from, .ref ht_bench_to, .ref ht_bench_tires, .ref ht_bench_copies, .ref ht_bench_pages, .int vt_bench_size])), (ht_bench_from, .inl (cI, 4, .inl x6.2.1)), (ht_bench_to, .inl (cI, 4, .inl x6.2.2.1)), (ht_bench_copies, .inl (cI, 4, .inl x6.2.2.2)), (ht_acts, .inr (0, [.ref ht_acts_before, .int (0:Int32)])), (ht_kept, .inl (cJ, 2, .inr (.inl vt_kept)))]) [2, 3, 4, 5, 6, 0, 1] rfl)
        have hD9 := (hD.sub (ws' := [(ht, .inr (4, [.ref ht_text, .ref ht_bench, .ref ht_acts, .ref ht_drawers, .ref ht_told, .ref ht_pagesOfTrial, .ref ht_kept, .int x6.1, .long vt_nowSeed])), (ht_bench, .inr (1, [.ref ht_bench_drops, .ref ht_bench_from, .ref ht_bench_to, .ref ht_bench_tires, .ref ht_bench_copies, .ref ht_bench_pages, .int vt_bench_size])), (ht_bench_from, .inl (cI, 4, .inl x6.2.1)), (ht_bench_to, .inl (cI, 4, .inl x6.2.2.1)), (ht_bench_copies, .inl (cI, 4, .inl x6.2.2.2)), (ht_acts, .inr (0, [.ref ht_acts_before, .int (0:Int32)])), (ht_kept, .inl (cJ, 2, .inr (.inl vt_kept)))]) [2, 3, 4, 5, 6, 0, 1] (by decide) rfl)
        exact W.iret (v := x7) hx hb hr (fun t eth hW => ⟨⟨x7, (x6.1, x6.2.1, x6.2.2.1, x6.2.2.2, (0:Int32)), rfl, ⟨(congrArg Prod.fst he).symm, (congrArg Prod.snd he).symm⟩, by rw [eth]; exact hP9, va_K.moved hW.alike hK, hD9⟩, hS.F eth⟩) hS.2.2 dX5_again_50
      · replace hf := dg_t c4 hf
        refine lv_bipush (v := -3) hx hb dX5_again_22 (by decide) ?_
        have he := Option.some.inj hf
        have hP9 := hP
        have hD9 := hD
        exact W.iret (v := (-3:Int32)) hx hb hr (fun t eth hW => ⟨⟨(-3:Int32), (vt_spoken, vt_bench_from, vt_bench_to, vt_bench_copies, vt_acts_size), rfl, ⟨(congrArg Prod.fst he).symm, (congrArg Prod.snd he).symm⟩, by rw [eth]; exact hP9, va_K.moved hW.alike hK, hD9⟩, hS.F eth⟩) hS.2.2 dX5_again_24
    · replace hf := dg_f c2 hf
      refine lv_iconst (v := -1) hx hb dX5_again_9 (by decide) ?_
      have he := Option.some.inj hf
      have hP9 := hP
      have hD9 := hD
      exact W.iret (v := (-1:Int32)) hx hb hr (fun t eth hW => ⟨⟨(-1:Int32), (vt_spoken, vt_bench_from, vt_bench_to, vt_bench_copies, vt_acts_size), rfl, ⟨(congrArg Prod.fst he).symm, (congrArg Prod.snd he).symm⟩, by rw [eth]; exact hP9, va_K.moved hW.alike hK, hD9⟩, hS.F eth⟩) hS.2.2 dX5_again_10
theorem hd_X5_setOfTold : yX5_setOfTold.cls = RX5 ∧ yX5_setOfTold.cls ≠ "java/lang/invoke/MethodHandle" ∧ yX5_setOfTold.cls ≠ "java/lang/invoke/VarHandle" ∧ (parseMethodDescriptor yX5_setOfTold.desc).map (fun d => d.parameters.length) = some 0 := by decide +kernel
abbrev rm_X5_setOfTold : Room := { frames := 0, cells := 0, slots := 0, locals := 0 }
abbrev q_X5_setOfTold (dC : Nat → ClassId) (dI : Nat → Nat → Nat) (cI cJ cZ : ClassId) (ht ht_text ht_bench ht_acts ht_drawers ht_told ht_pagesOfTrial ht_kept ht_bench_drops ht_bench_from ht_bench_to ht_bench_tires ht_bench_copies ht_bench_pages : Nat) (vt_spoken : Int32) (vt_nowSeed : Int64) (vt_bench_size : Int32) (vt_told : Nat → Int32) (R : Int32) (A : Nat → Prop) : Array Value → State → Outcome → State → Prop := va_Qi (fun (r : Int32) (_ : Unit) => R = r) (fun (u : Unit) (t : State) => va_P (dC, dI) vwCl [(ht, .inr (4, [.ref ht_text, .ref ht_bench, .ref ht_acts, .ref ht_drawers, .ref ht_told, .ref ht_pagesOfTrial, .ref ht_kept, .int vt_spoken, .long vt_nowSeed])), (ht_bench, .inr (1, [.ref ht_bench_drops, .ref ht_bench_from, .ref ht_bench_to, .ref ht_bench_tires, .ref ht_bench_copies, .ref ht_bench_pages, .int vt_bench_size])), (ht_told, .inl (cI, 4, .inl vt_told))] t.heap ∧ va_K (dC, dI) vwCl [(cI, .int), (cJ, .long), (cZ, .boolean)] t ∧ va_D A [(ht, .inr (4, [.ref ht_text, .ref ht_bench, .ref ht_acts, .ref ht_drawers, .ref ht_told, .ref ht_pagesOfTrial, .ref ht_kept, .int vt_spoken, .long vt_nowSeed])), (ht_bench, .inr (1, [.ref ht_bench_drops, .ref ht_bench_from, .ref ht_bench_to, .ref ht_bench_tires, .ref ht_bench_copies, .ref ht_bench_pages, .int vt_bench_size])), (ht_told, .inl (cI, 4, .inl vt_told))]) A
set_option maxHeartbeats 4000000 in
set_option maxRecDepth 100000 in
theorem k_X5_setOfTold (l : Launch) (dC : Nat → ClassId) (dI : Nat → Nat → Nat) (cI cJ cZ : ClassId) (sz : Nat) (ht ht_text ht_bench ht_acts ht_drawers ht_told ht_pagesOfTrial ht_kept ht_bench_drops ht_bench_from ht_bench_to ht_bench_tires ht_bench_copies ht_bench_pages : Nat) (vt_spoken : Int32) (vt_nowSeed : Int64) (vt_bench_size : Int32) (vt_told : Nat → Int32) (N : Nat) (R : Int32) (hf : f_X5_setOfTold N vt_bench_size vt_told = some R) : Met l yX5_setOfTold wsX5_setOfTold (rm_X5_setOfTold) (va_Pc [.ref ht] (fun U => U.heap.size = sz ∧ va_P (dC, dI) vwCl [(ht, .inr (4, [.ref ht_text, .ref ht_bench, .ref ht_acts, .ref ht_drawers, .ref ht_told, .ref ht_pagesOfTrial, .ref ht_kept, .int vt_spoken, .long vt_nowSeed])), (ht_bench, .inr (1, [.ref ht_bench_drops, .ref ht_bench_from, .ref ht_bench_to, .ref ht_bench_tires, .ref ht_bench_copies, .ref ht_bench_pages, .int vt_bench_size])), (ht_told, .inl (cI, 4, .inl vt_told))] U.heap ∧ va_K (dC, dI) vwCl [(cI, .int), (cJ, .long), (cZ, .boolean)] U ∧ va_D (fun _ => True) [(ht, .inr (4, [.ref ht_text, .ref ht_bench, .ref ht_acts, .ref ht_drawers, .ref ht_told, .ref ht_pagesOfTrial, .ref ht_kept, .int vt_spoken, .long vt_nowSeed])), (ht_bench, .inr (1, [.ref ht_bench_drops, .ref ht_bench_from, .ref ht_bench_to, .ref ht_bench_tires, .ref ht_bench_copies, .ref ht_bench_pages, .int vt_bench_size])), (ht_told, .inl (cI, 4, .inl vt_told))])) (q_X5_setOfTold dC dI cI cJ cZ ht ht_text ht_bench ht_acts ht_drawers ht_told ht_pagesOfTrial ht_kept ht_bench_drops ht_bench_from ht_bench_to ht_bench_tires ht_bench_copies ht_bench_pages vt_spoken vt_nowSeed vt_bench_size vt_told R (va_A [(ht, .inr (4, [.ref ht_text, .ref ht_bench, .ref ht_acts, .ref ht_drawers, .ref ht_told, .ref ht_pagesOfTrial, .ref ht_kept, .int vt_spoken, .long vt_nowSeed])), (ht_bench, .inr (1, [.ref ht_bench_drops, .ref ht_bench_from, .ref ht_bench_to, .ref ht_bench_tires, .ref ht_bench_copies, .ref ht_bench_pages, .int vt_bench_size])), (ht_told, .inl (cI, 4, .inl vt_told))] sz)) 0 0 (va_A [(ht, .inr (4, [.ref ht_text, .ref ht_bench, .ref ht_acts, .ref ht_drawers, .ref ht_told, .ref ht_pagesOfTrial, .ref ht_kept, .int vt_spoken, .long vt_nowSeed])), (ht_bench, .inr (1, [.ref ht_bench_drops, .ref ht_bench_from, .ref ht_bench_to, .ref ht_bench_tires, .ref ht_bench_copies, .ref ht_bench_pages, .int vt_bench_size])), (ht_told, .inl (cI, 4, .inl vt_told))] sz) := by
  refine Met.ofW (cc := cX5_setOfTold) (maxL := 3) (ret := (some .int)) (by decide) rfl ?_
  intro p e s m args below meth c s₁ B hml hv
  obtain ⟨rfl, hsz, hP, hK, hD0⟩ := hv
  have hx := B.exec
  have hb := B.bytes
  have hr := B.returns
  have hts := atoms_spec (ws := wsX5_setOfTold) B.pre
  have hown : s.vm.findClass RX5 = some m.cls := findClass_of_methodNamed B.named
  have hlocks := B.notSynchronized
  clear B
  subst hsz
  have hw0 := hts (.fieldLink RX5 19 "ShorthandCourt" "bench" "LShorthandCourt$Bench;") (by decide +kernel)
  have hw1 := hts (.fieldLink RX5 83 "ShorthandCourt$Bench" "size" "I") (by decide +kernel)
  have hw2 := hts (.fieldLink RX5 37 "ShorthandCourt" "told" "[I") (by decide +kernel)
  have hinX1 : ∀ w ∈ u_ws RX1 TX1 7, w ∈ wsX5_setOfTold := by decide +kernel
  have hinX5 : ∀ w ∈ u_ws RX5 TX5 9, w ∈ wsX5_setOfTold := by decide +kernel
  have hD := hD0.self (sz := s.heap.size)
  clear hD0
  generalize hAe : va_A [(ht, .inr (4, [.ref ht_text, .ref ht_bench, .ref ht_acts, .ref ht_drawers, .ref ht_told, .ref ht_pagesOfTrial, .ref ht_kept, .int vt_spoken, .long vt_nowSeed])), (ht_bench, .inr (1, [.ref ht_bench_drops, .ref ht_bench_from, .ref ht_bench_to, .ref ht_bench_tires, .ref ht_bench_copies, .ref ht_bench_pages, .int vt_bench_size])), (ht_told, .inl (cI, 4, .inl vt_told))] s.heap.size = A at hD ⊢
  have hA : ∀ q : Nat, s.heap.size ≤ q → A q := fun q h => by rw [← hAe]; exact Or.inr h
  clear hAe
  have hS : va_S A s.heap s.heap [] := va_S.rf
  have hl := lv_entry ([.ref ht]) (n := 3) (Nat.le_of_ble_eq_true rfl)
  rw [lg_entry_eq]
  generalize (lg_sl ([.ref ht]) ++ List.replicate (3 - (lg_sl ([.ref ht])).length) Slot.unset).toArray = ls at hl ⊢
  have hl : lv_has ls 3 [(0, .ref ht)] := hl
  unfold f_X5_setOfTold at hf
  refine lv_iconst (v := 0) hx hb dX5_setOfTold_0 (by decide) ?_
  refine lv_istore_n (lv' := [(1, .int (0:Int32)), (0, .ref ht)]) hx hb dX5_setOfTold_1 rfl hl (by decide) rfl (fun ls hl => ?_)
  refine lv_iconst (v := 0) hx hb dX5_setOfTold_2 (by decide) ?_
  refine lv_istore_n (lv' := [(2, .int (0:Int32)), (1, .int (0:Int32)), (0, .ref ht)]) hx hb dX5_setOfTold_3 rfl hl (by decide) rfl (fun ls hl => ?_)
  have ex4 : ∀ (z1_4 : Int32) (z2_4 : Int32) (H : Heap) (locs : List Loc) (ls : Array Slot), va_P (dC, dI) vwCl [(ht, .inr (4, [.ref ht_text, .ref ht_bench, .ref ht_acts, .ref ht_drawers, .ref ht_told, .ref ht_pagesOfTrial, .ref ht_kept, .int vt_spoken, .long vt_nowSeed])), (ht_bench, .inr (1, [.ref ht_bench_drops, .ref ht_bench_from, .ref ht_bench_to, .ref ht_bench_tires, .ref ht_bench_copies, .ref ht_bench_pages, .int vt_bench_size])), (ht_told, .inl (cI, 4, .inl vt_told))] H → va_D A [(ht, .inr (4, [.ref ht_text, .ref ht_bench, .ref ht_acts, .ref ht_drawers, .ref ht_told, .ref ht_pagesOfTrial, .ref ht_kept, .int vt_spoken, .long vt_nowSeed])), (ht_bench, .inr (1, [.ref ht_bench_drops, .ref ht_bench_from, .ref ht_bench_to, .ref ht_bench_tires, .ref ht_bench_copies, .ref ht_bench_pages, .int vt_bench_size])), (ht_told, .inl (cI, 4, .inl vt_told))] → va_S A s.heap H locs → lv_has ls 3 [(2, .int z2_4), (1, .int z1_4), (0, .ref ht)] → (some z1_4) = some R → W p l e (rm_X5_setOfTold) s m ([.ref ht] : List Value).toArray below meth c H locs 0 0 (MQ below (q_X5_setOfTold dC dI cI cJ cZ ht ht_text ht_bench ht_acts ht_drawers ht_told ht_pagesOfTrial ht_kept ht_bench_drops ht_bench_from ht_bench_to ht_bench_tires ht_bench_copies ht_bench_pages vt_spoken vt_nowSeed vt_bench_size vt_told R A) ([.ref ht] : List Value).toArray s 0 0 A) (F0 m 36 ls []) := by
    intro z1_4 z2_4 H locs ls hP hD hS hl hf
    refine lv_iload_n hx hb dX5_setOfTold_36 rfl (lv_at hl 1 rfl) ?_
    have he := Option.some.inj hf
    have hP9 := hP
    have hD9 := hD
    exact W.iret (v := z1_4) hx hb hr (fun t eth hW => ⟨⟨z1_4, (), rfl, he.symm, by rw [eth]; exact hP9, va_K.moved hW.alike hK, hD9⟩, hS.F eth⟩) hS.2.2 dX5_setOfTold_37
  have lp4 : ∀ (n4 : Nat) (y1_4 : Int32) (y2_4 : Int32) (H : Heap) (locs : List Loc) (ls : Array Slot), va_P (dC, dI) vwCl [(ht, .inr (4, [.ref ht_text, .ref ht_bench, .ref ht_acts, .ref ht_drawers, .ref ht_told, .ref ht_pagesOfTrial, .ref ht_kept, .int vt_spoken, .long vt_nowSeed])), (ht_bench, .inr (1, [.ref ht_bench_drops, .ref ht_bench_from, .ref ht_bench_to, .ref ht_bench_tires, .ref ht_bench_copies, .ref ht_bench_pages, .int vt_bench_size])), (ht_told, .inl (cI, 4, .inl vt_told))] H → va_D A [(ht, .inr (4, [.ref ht_text, .ref ht_bench, .ref ht_acts, .ref ht_drawers, .ref ht_told, .ref ht_pagesOfTrial, .ref ht_kept, .int vt_spoken, .long vt_nowSeed])), (ht_bench, .inr (1, [.ref ht_bench_drops, .ref ht_bench_from, .ref ht_bench_to, .ref ht_bench_tires, .ref ht_bench_copies, .ref ht_bench_pages, .int vt_bench_size])), (ht_told, .inl (cI, 4, .inl vt_told))] → va_S A s.heap H locs → lv_has ls 3 [(2, .int y2_4), (1, .int y1_4), (0, .ref ht)] → f_X5_setOfTold_4 N vt_bench_size vt_told (fun z1_4 z2_4 => some z1_4) n4 y1_4 y2_4 = some R → W p l e (rm_X5_setOfTold) s m ([.ref ht] : List Value).toArray below meth c H locs 0 0 (MQ below (q_X5_setOfTold dC dI cI cJ cZ ht ht_text ht_bench ht_acts ht_drawers ht_told ht_pagesOfTrial ht_kept ht_bench_drops ht_bench_from ht_bench_to ht_bench_tires ht_bench_copies ht_bench_pages vt_spoken vt_nowSeed vt_bench_size vt_told R A) ([.ref ht] : List Value).toArray s 0 0 A) (F0 m 4 ls []) := by
    intro n4
    induction n4 with
    | zero => intro y1_4 y2_4 H locs ls hP hD hS hl hf; rw [f_X5_setOfTold_4] at hf; cases hf
    | succ n4 ih4 =>
      intro y1_4 y2_4 H locs ls hP hD hS hl hf
      rw [f_X5_setOfTold_4] at hf
      refine lv_iload_n hx hb dX5_setOfTold_4 rfl (lv_at hl 0 rfl) ?_
      refine lv_aload_n hx hb dX5_setOfTold_5 rfl (lv_at hl 2 rfl) ?_
      refine va_get (D := (dC, dI)) (ci := 4) (v := .ref ht_bench) (C := RX5) (T := TX5) (N := 9) hx hb hts hinX5 hown hK hP 0 rfl rfl 1 (by decide) hw0 (fun _ h9 => h9) rfl dX5_setOfTold_6 ?_
      refine va_get (D := (dC, dI)) (ci := 1) (v := .int vt_bench_size) (C := RX1) (T := TX1) (N := 7) hx hb hts hinX1 hown hK hP 1 rfl rfl 6 (by decide) hw1 (fun _ h9 => h9) rfl dX5_setOfTold_9 ?_
      refine lv_icmp_ge (tgt := 36) hx hb dX5_setOfTold_12 (by decide) (fun c1 => ?_) (fun c1 => ?_)
      · replace hf := dg_t c1 hf
        exact ex4 y1_4 y2_4 _ _ _ hP hD hS (lv_sub hl [0, 1, 2] rfl) hf
      · replace hf := dg_f c1 hf
        refine lv_aload_n hx hb dX5_setOfTold_15 rfl (lv_at hl 2 rfl) ?_
        refine va_get (D := (dC, dI)) (ci := 4) (v := .ref ht_told) (C := RX5) (T := TX5) (N := 9) hx hb hts hinX5 hown hK hP 0 rfl rfl 4 (by decide) hw2 (fun _ h9 => h9) rfl dX5_setOfTold_16 ?_
        refine lv_iload_n hx hb dX5_setOfTold_19 rfl (lv_at hl 0 rfl) ?_
        obtain ⟨hi2, hf⟩ := dg_ix hf
        refine va_iald hx hb hK hP 2 0 rfl rfl hi2 dX5_setOfTold_20 ?_
        refine lv_if_eq (tgt := 30) hx hb dX5_setOfTold_21 (by decide) (fun c3 => ?_) (fun c3 => ?_)
        · replace hf := dg_t c3 hf
          refine lv_iinc (v := (y2_4 + (1:Int32))) (lv' := [(2, .int (y2_4 + (1:Int32))), (1, .int y1_4), (0, .ref ht)]) hx hb dX5_setOfTold_30 hl (k := 0) rfl (by first | rfl | decide) (by decide) rfl (fun ls hl => ?_)
          refine lv_goto (tgt := 4) hx hb dX5_setOfTold_33 (by decide) ?_
          exact ih4 y1_4 (y2_4 + (1:Int32)) _ _ _ hP hD hS (lv_sub hl [0, 1, 2] rfl) hf
        · replace hf := dg_f c3 hf
          refine lv_iload_n hx hb dX5_setOfTold_24 rfl (lv_at hl 1 rfl) ?_
          refine lv_iconst (v := 1) hx hb dX5_setOfTold_25 (by decide) ?_
          refine lv_iload_n hx hb dX5_setOfTold_26 rfl (lv_at hl 0 rfl) ?_
          refine lv_ishl hx hb dX5_setOfTold_27 ?_
          refine lv_ior hx hb dX5_setOfTold_28 ?_
          refine lv_istore_n (lv' := [(1, .int (y1_4 ||| ((1:Int32) <<< (y2_4 &&& 31)))), (2, .int y2_4), (0, .ref ht)]) hx hb dX5_setOfTold_29 rfl hl (by decide) rfl (fun ls hl => ?_)
          refine lv_iinc (v := (y2_4 + (1:Int32))) (lv' := [(2, .int (y2_4 + (1:Int32))), (1, .int (y1_4 ||| ((1:Int32) <<< (y2_4 &&& 31)))), (0, .ref ht)]) hx hb dX5_setOfTold_30 hl (k := 1) rfl (by first | rfl | decide) (by decide) rfl (fun ls hl => ?_)
          refine lv_goto (tgt := 4) hx hb dX5_setOfTold_33 (by decide) ?_
          exact ih4 (y1_4 ||| ((1:Int32) <<< (y2_4 &&& 31))) (y2_4 + (1:Int32)) _ _ _ hP hD hS (lv_sub hl [0, 1, 2] rfl) hf
  exact lp4 N (0:Int32) (0:Int32) _ _ _ hP hD hS hl hf
theorem hd_X5_count : yX5_count.cls = RX5 ∧ yX5_count.cls ≠ "java/lang/invoke/MethodHandle" ∧ yX5_count.cls ≠ "java/lang/invoke/VarHandle" ∧ (parseMethodDescriptor yX5_count.desc).map (fun d => d.parameters.length) = some 1 := by decide +kernel
abbrev rm_X5_count : Room := { frames := 5, cells := 0, slots := 0, locals := 118 }
abbrev q_X5_count (dC : Nat → ClassId) (dI : Nat → Nat → Nat) (cI cJ cZ : ClassId) (ht ht_text ht_bench ht_acts ht_drawers ht_told ht_pagesOfTrial ht_kept ht_text_letters ht_bench_drops ht_bench_from ht_bench_to ht_bench_tires ht_bench_copies ht_bench_pages ht_acts_before : Nat) (vt_spoken : Int32) (vt_nowSeed : Int64) (vt_text_size : Int32) (vt_bench_size : Int32) (vt_bench_drops : Nat → Int32) (vt_bench_from : Nat → Int32) (vt_bench_to : Nat → Int32) (vt_bench_tires : Nat → Int32) (vt_bench_copies : Nat → Int32) (vt_acts_size : Int32) (vt_told : Nat → Int32) (R : Int32 × (Nat → Int32)) (A : Nat → Prop) : Array Value → State → Outcome → State → Prop := va_Qi (fun (r : Int32) (u : (Nat → Int32)) => R.1 = r ∧ R.2 = u) (fun (u : (Nat → Int32)) (t : State) => va_P (dC, dI) vwCl [(ht, .inr (4, [.ref ht_text, .ref ht_bench, .ref ht_acts, .ref ht_drawers, .ref ht_told, .ref ht_pagesOfTrial, .ref ht_kept, .int vt_spoken, .long vt_nowSeed])), (ht_text, .inr (2, [.ref ht_text_letters, .int vt_text_size])), (ht_bench, .inr (1, [.ref ht_bench_drops, .ref ht_bench_from, .ref ht_bench_to, .ref ht_bench_tires, .ref ht_bench_copies, .ref ht_bench_pages, .int vt_bench_size])), (ht_bench_drops, .inl (cI, 4, .inl vt_bench_drops)), (ht_bench_from, .inl (cI, 4, .inl vt_bench_from)), (ht_bench_to, .inl (cI, 4, .inl vt_bench_to)), (ht_bench_tires, .inl (cI, 4, .inl vt_bench_tires)), (ht_bench_copies, .inl (cI, 4, .inl vt_bench_copies)), (ht_bench_pages, .inl (cI, 4, .inl u)), (ht_acts, .inr (0, [.ref ht_acts_before, .int vt_acts_size])), (ht_told, .inl (cI, 4, .inl vt_told))] t.heap ∧ va_K (dC, dI) vwCl [(cI, .int), (cJ, .long), (cZ, .boolean)] t ∧ va_D A [(ht, .inr (4, [.ref ht_text, .ref ht_bench, .ref ht_acts, .ref ht_drawers, .ref ht_told, .ref ht_pagesOfTrial, .ref ht_kept, .int vt_spoken, .long vt_nowSeed])), (ht_text, .inr (2, [.ref ht_text_letters, .int vt_text_size])), (ht_bench, .inr (1, [.ref ht_bench_drops, .ref ht_bench_from, .ref ht_bench_to, .ref ht_bench_tires, .ref ht_bench_copies, .ref ht_bench_pages, .int vt_bench_size])), (ht_bench_drops, .inl (cI, 4, .inl vt_bench_drops)), (ht_bench_from, .inl (cI, 4, .inl vt_bench_from)), (ht_bench_to, .inl (cI, 4, .inl vt_bench_to)), (ht_bench_tires, .inl (cI, 4, .inl vt_bench_tires)), (ht_bench_copies, .inl (cI, 4, .inl vt_bench_copies)), (ht_bench_pages, .inl (cI, 4, .inl u)), (ht_acts, .inr (0, [.ref ht_acts_before, .int vt_acts_size])), (ht_told, .inl (cI, 4, .inl vt_told))]) A
set_option maxHeartbeats 4000000 in
set_option maxRecDepth 100000 in
theorem k_X5_count (l : Launch) (dC : Nat → ClassId) (dI : Nat → Nat → Nat) (cI cJ cZ : ClassId) (sz : Nat) (ht ht_text ht_bench ht_acts ht_drawers ht_told ht_pagesOfTrial ht_kept ht_text_letters ht_bench_drops ht_bench_from ht_bench_to ht_bench_tires ht_bench_copies ht_bench_pages ht_acts_before : Nat) (a1 : Int32) (vt_spoken : Int32) (vt_nowSeed : Int64) (vt_text_size : Int32) (vt_bench_size : Int32) (vt_bench_drops : Nat → Int32) (vt_bench_from : Nat → Int32) (vt_bench_to : Nat → Int32) (vt_bench_tires : Nat → Int32) (vt_bench_copies : Nat → Int32) (vt_bench_pages : Nat → Int32) (vt_acts_size : Int32) (vt_told : Nat → Int32) (N : Nat) (R : Int32 × (Nat → Int32)) (hf : f_X5_count N a1 vt_spoken vt_text_size vt_bench_size vt_bench_drops vt_bench_from vt_bench_to vt_bench_tires vt_bench_copies vt_bench_pages vt_acts_size vt_told = some R) : Met l yX5_count wsX5_count (rm_X5_count) (va_Pc [.ref ht, .int a1] (fun U => U.heap.size = sz ∧ va_P (dC, dI) vwCl [(ht, .inr (4, [.ref ht_text, .ref ht_bench, .ref ht_acts, .ref ht_drawers, .ref ht_told, .ref ht_pagesOfTrial, .ref ht_kept, .int vt_spoken, .long vt_nowSeed])), (ht_text, .inr (2, [.ref ht_text_letters, .int vt_text_size])), (ht_bench, .inr (1, [.ref ht_bench_drops, .ref ht_bench_from, .ref ht_bench_to, .ref ht_bench_tires, .ref ht_bench_copies, .ref ht_bench_pages, .int vt_bench_size])), (ht_bench_drops, .inl (cI, 4, .inl vt_bench_drops)), (ht_bench_from, .inl (cI, 4, .inl vt_bench_from)), (ht_bench_to, .inl (cI, 4, .inl vt_bench_to)), (ht_bench_tires, .inl (cI, 4, .inl vt_bench_tires)), (ht_bench_copies, .inl (cI, 4, .inl vt_bench_copies)), (ht_bench_pages, .inl (cI, 4, .inl vt_bench_pages)), (ht_acts, .inr (0, [.ref ht_acts_before, .int vt_acts_size])), (ht_told, .inl (cI, 4, .inl vt_told))] U.heap ∧ va_K (dC, dI) vwCl [(cI, .int), (cJ, .long), (cZ, .boolean)] U ∧ va_D (fun _ => True) [(ht, .inr (4, [.ref ht_text, .ref ht_bench, .ref ht_acts, .ref ht_drawers, .ref ht_told, .ref ht_pagesOfTrial, .ref ht_kept, .int vt_spoken, .long vt_nowSeed])), (ht_text, .inr (2, [.ref ht_text_letters, .int vt_text_size])), (ht_bench, .inr (1, [.ref ht_bench_drops, .ref ht_bench_from, .ref ht_bench_to, .ref ht_bench_tires, .ref ht_bench_copies, .ref ht_bench_pages, .int vt_bench_size])), (ht_bench_drops, .inl (cI, 4, .inl vt_bench_drops)), (ht_bench_from, .inl (cI, 4, .inl vt_bench_from)), (ht_bench_to, .inl (cI, 4, .inl vt_bench_to)), (ht_bench_tires, .inl (cI, 4, .inl vt_bench_tires)), (ht_bench_copies, .inl (cI, 4, .inl vt_bench_copies)), (ht_bench_pages, .inl (cI, 4, .inl vt_bench_pages)), (ht_acts, .inr (0, [.ref ht_acts_before, .int vt_acts_size])), (ht_told, .inl (cI, 4, .inl vt_told))])) (q_X5_count dC dI cI cJ cZ ht ht_text ht_bench ht_acts ht_drawers ht_told ht_pagesOfTrial ht_kept ht_text_letters ht_bench_drops ht_bench_from ht_bench_to ht_bench_tires ht_bench_copies ht_bench_pages ht_acts_before vt_spoken vt_nowSeed vt_text_size vt_bench_size vt_bench_drops vt_bench_from vt_bench_to vt_bench_tires vt_bench_copies vt_acts_size vt_told R (va_A [(ht, .inr (4, [.ref ht_text, .ref ht_bench, .ref ht_acts, .ref ht_drawers, .ref ht_told, .ref ht_pagesOfTrial, .ref ht_kept, .int vt_spoken, .long vt_nowSeed])), (ht_text, .inr (2, [.ref ht_text_letters, .int vt_text_size])), (ht_bench, .inr (1, [.ref ht_bench_drops, .ref ht_bench_from, .ref ht_bench_to, .ref ht_bench_tires, .ref ht_bench_copies, .ref ht_bench_pages, .int vt_bench_size])), (ht_bench_drops, .inl (cI, 4, .inl vt_bench_drops)), (ht_bench_from, .inl (cI, 4, .inl vt_bench_from)), (ht_bench_to, .inl (cI, 4, .inl vt_bench_to)), (ht_bench_tires, .inl (cI, 4, .inl vt_bench_tires)), (ht_bench_copies, .inl (cI, 4, .inl vt_bench_copies)), (ht_bench_pages, .inl (cI, 4, .inl vt_bench_pages)), (ht_acts, .inr (0, [.ref ht_acts_before, .int vt_acts_size])), (ht_told, .inl (cI, 4, .inl vt_told))] sz)) 0 0 (va_A [(ht, .inr (4, [.ref ht_text, .ref ht_bench, .ref ht_acts, .ref ht_drawers, .ref ht_told, .ref ht_pagesOfTrial, .ref ht_kept, .int vt_spoken, .long vt_nowSeed])), (ht_text, .inr (2, [.ref ht_text_letters, .int vt_text_size])), (ht_bench, .inr (1, [.ref ht_bench_drops, .ref ht_bench_from, .ref ht_bench_to, .ref ht_bench_tires, .ref ht_bench_copies, .ref ht_bench_pages, .int vt_bench_size])), (ht_bench_drops, .inl (cI, 4, .inl vt_bench_drops)), (ht_bench_from, .inl (cI, 4, .inl vt_bench_from)), (ht_bench_to, .inl (cI, 4, .inl vt_bench_to)), (ht_bench_tires, .inl (cI, 4, .inl vt_bench_tires)), (ht_bench_copies, .inl (cI, 4, .inl vt_bench_copies)), (ht_bench_pages, .inl (cI, 4, .inl vt_bench_pages)), (ht_acts, .inr (0, [.ref ht_acts_before, .int vt_acts_size])), (ht_told, .inl (cI, 4, .inl vt_told))] sz) := by
  refine Met.ofW (cc := cX5_count) (maxL := 2) (ret := (some .int)) (by decide) rfl ?_
  intro p e s m args below meth c s₁ B hml hv
  obtain ⟨rfl, hsz, hP, hK, hD0⟩ := hv
  have hx := B.exec
  have hb := B.bytes
  have hr := B.returns
  have hts := atoms_spec (ws := wsX5_count) B.pre
  have hown : s.vm.findClass RX5 = some m.cls := findClass_of_methodNamed B.named
  have hlocks := B.notSynchronized
  clear B
  subst hsz
  have hw0 := hts (.fieldLink RX5 12 "ShorthandCourt" "text" "LShorthandCourt$CourtText;") (by decide +kernel)
  have hw1 := hts (.fieldLink RX5 58 "ShorthandCourt$CourtText" "size" "I") (by decide +kernel)
  have hw2 := hts (.fieldLink RX5 19 "ShorthandCourt" "bench" "LShorthandCourt$Bench;") (by decide +kernel)
  have hw3 := hts (.fieldLink RX5 83 "ShorthandCourt$Bench" "size" "I") (by decide +kernel)
  have hw4 := hts (.fieldLink RX5 50 "ShorthandCourt" "spoken" "I") (by decide +kernel)
  have hw5 := hts (.fieldLink RX5 26 "ShorthandCourt" "acts" "LShorthandCourt$ActRow;") (by decide +kernel)
  have hw6 := hts (.fieldLink RX5 73 "ShorthandCourt$ActRow" "size" "I") (by decide +kernel)
  have hinX0 : ∀ w ∈ u_ws RX0 TX0 2, w ∈ wsX5_count := by decide +kernel
  have hinX1 : ∀ w ∈ u_ws RX1 TX1 7, w ∈ wsX5_count := by decide +kernel
  have hinX2 : ∀ w ∈ u_ws RX2 TX2 2, w ∈ wsX5_count := by decide +kernel
  have hinX5 : ∀ w ∈ u_ws RX5 TX5 9, w ∈ wsX5_count := by decide +kernel
  have hD := hD0.self (sz := s.heap.size)
  clear hD0
  generalize hAe : va_A [(ht, .inr (4, [.ref ht_text, .ref ht_bench, .ref ht_acts, .ref ht_drawers, .ref ht_told, .ref ht_pagesOfTrial, .ref ht_kept, .int vt_spoken, .long vt_nowSeed])), (ht_text, .inr (2, [.ref ht_text_letters, .int vt_text_size])), (ht_bench, .inr (1, [.ref ht_bench_drops, .ref ht_bench_from, .ref ht_bench_to, .ref ht_bench_tires, .ref ht_bench_copies, .ref ht_bench_pages, .int vt_bench_size])), (ht_bench_drops, .inl (cI, 4, .inl vt_bench_drops)), (ht_bench_from, .inl (cI, 4, .inl vt_bench_from)), (ht_bench_to, .inl (cI, 4, .inl vt_bench_to)), (ht_bench_tires, .inl (cI, 4, .inl vt_bench_tires)), (ht_bench_copies, .inl (cI, 4, .inl vt_bench_copies)), (ht_bench_pages, .inl (cI, 4, .inl vt_bench_pages)), (ht_acts, .inr (0, [.ref ht_acts_before, .int vt_acts_size])), (ht_told, .inl (cI, 4, .inl vt_told))] s.heap.size = A at hD ⊢
  have hA : ∀ q : Nat, s.heap.size ≤ q → A q := fun q h => by rw [← hAe]; exact Or.inr h
  clear hAe
  have hS : va_S A s.heap s.heap [] := va_S.rf
  have hl := lv_entry ([.ref ht, .int a1]) (n := 2) (Nat.le_of_ble_eq_true rfl)
  rw [lg_entry_eq]
  generalize (lg_sl ([.ref ht, .int a1]) ++ List.replicate (2 - (lg_sl ([.ref ht, .int a1])).length) Slot.unset).toArray = ls at hl ⊢
  have hl : lv_has ls 2 [(0, .ref ht), (1, .int a1)] := hl
  unfold f_X5_count at hf
  refine lv_iload_n hx hb dX5_count_0 rfl (lv_at hl 1 rfl) ?_
  by_cases c1 : a1 = (0:Int32)
  · replace hf := dg_t c1 hf
    refine lv_tableIn (off := 39) (tgt := 40) hx hb dX5_count_1 (by rw [c1]; decide) (by rw [c1]; decide) (by rw [c1]; decide) (by decide) ?_
    refine lv_aload_n hx hb dX5_count_40 rfl (lv_at hl 0 rfl) ?_
    refine va_get (D := (dC, dI)) (ci := 4) (v := .ref ht_text) (C := RX5) (T := TX5) (N := 9) hx hb hts hinX5 hown hK hP 0 rfl rfl 0 (by decide) hw0 (fun _ h9 => h9) rfl dX5_count_41 ?_
    refine va_get (D := (dC, dI)) (ci := 2) (v := .int vt_text_size) (C := RX2) (T := TX2) (N := 2) hx hb hts hinX2 hown hK hP 1 rfl rfl 1 (by decide) hw1 (fun _ h9 => h9) rfl dX5_count_44 ?_
    have he := Option.some.inj hf
    have hP9 := hP
    have hD9 := hD
    exact W.iret (v := vt_text_size) hx hb hr (fun t eth hW => ⟨⟨vt_text_size, vt_bench_pages, rfl, ⟨(congrArg Prod.fst he).symm, (congrArg Prod.snd he).symm⟩, by rw [eth]; exact hP9, va_K.moved hW.alike hK, hD9⟩, hS.F eth⟩) hS.2.2 dX5_count_47
  · replace hf := dg_f c1 hf
    by_cases c2 : a1 = (1:Int32)
    · replace hf := dg_t c2 hf
      refine lv_tableIn (off := 47) (tgt := 48) hx hb dX5_count_1 (by rw [c2]; decide) (by rw [c2]; decide) (by rw [c2]; decide) (by decide) ?_
      refine lv_aload_n hx hb dX5_count_48 rfl (lv_at hl 0 rfl) ?_
      refine va_get (D := (dC, dI)) (ci := 4) (v := .ref ht_bench) (C := RX5) (T := TX5) (N := 9) hx hb hts hinX5 hown hK hP 0 rfl rfl 1 (by decide) hw2 (fun _ h9 => h9) rfl dX5_count_49 ?_
      refine va_get (D := (dC, dI)) (ci := 1) (v := .int vt_bench_size) (C := RX1) (T := TX1) (N := 7) hx hb hts hinX1 hown hK hP 2 rfl rfl 6 (by decide) hw3 (fun _ h9 => h9) rfl dX5_count_52 ?_
      have he := Option.some.inj hf
      have hP9 := hP
      have hD9 := hD
      exact W.iret (v := vt_bench_size) hx hb hr (fun t eth hW => ⟨⟨vt_bench_size, vt_bench_pages, rfl, ⟨(congrArg Prod.fst he).symm, (congrArg Prod.snd he).symm⟩, by rw [eth]; exact hP9, va_K.moved hW.alike hK, hD9⟩, hS.F eth⟩) hS.2.2 dX5_count_55
    · replace hf := dg_f c2 hf
      by_cases c3 : a1 = (2:Int32)
      · replace hf := dg_t c3 hf
        refine lv_tableIn (off := 55) (tgt := 56) hx hb dX5_count_1 (by rw [c3]; decide) (by rw [c3]; decide) (by rw [c3]; decide) (by decide) ?_
        refine lv_aload_n hx hb dX5_count_56 rfl (lv_at hl 0 rfl) ?_
        refine va_get (D := (dC, dI)) (ci := 4) (v := .int vt_spoken) (C := RX5) (T := TX5) (N := 9) hx hb hts hinX5 hown hK hP 0 rfl rfl 7 (by decide) hw4 (fun _ h9 => h9) rfl dX5_count_57 ?_
        obtain ⟨x4, hx4, hf⟩ := dg_bind hf
        have hPc : va_P (dC, dI) vwCl [] s.heap := hP.sub [] rfl
        have hDc : va_D A [] := hD.sub [] (by decide) rfl
        have hFc := va_free (wc := []) hD hS hA [] rfl
        refine va_calli (va_runS (As := [.int vt_spoken]) (rest := []) ⟨hx, hb, hml, hown, hts⟩ (k_X4_wordsIn l dC dI cI cJ cZ s.heap.size vt_spoken N x4 hx4) (va_cwS 1 hts gX5_count_X4_wordsIn rfl rfl rfl hd_X4_wordsIn ⟨Nat.le_of_ble_eq_true rfl, Nat.le_of_ble_eq_true rfl⟩) ⟨blind_pc, pre_pc hPc hK hDc⟩ rfl rfl hl.1 rfl (lv_room (Nat.le_of_ble_eq_true rfl)) dX5_count_60 ⟨Nat.zero_le _, Nat.zero_le _⟩) hS (fun q _ h => hFc q h) hFc (fun r u t H1 locs eth hvm hw hB hz1 hk1 hS => ?_)
        obtain ⟨hP1, hK1, hD1⟩ := hB
        rw [eth] at hP1
        subst hw
        obtain ⟨hP, hD⟩ := va_join (wr := [(ht, .inr (4, [.ref ht_text, .ref ht_bench, .ref ht_acts, .ref ht_drawers, .ref ht_told, .ref ht_pagesOfTrial, .ref ht_kept, .int vt_spoken, .long vt_nowSeed])), (ht_text, .inr (2, [.ref ht_text_letters, .int vt_text_size])), (ht_bench, .inr (1, [.ref ht_bench_drops, .ref ht_bench_from, .ref ht_bench_to, .ref ht_bench_tires, .ref ht_bench_copies, .ref ht_bench_pages, .int vt_bench_size])), (ht_bench_drops, .inl (cI, 4, .inl vt_bench_drops)), (ht_bench_from, .inl (cI, 4, .inl vt_bench_from)), (ht_bench_to, .inl (cI, 4, .inl vt_bench_to)), (ht_bench_tires, .inl (cI, 4, .inl vt_bench_tires)), (ht_bench_copies, .inl (cI, 4, .inl vt_bench_copies)), (ht_bench_pages, .inl (cI, 4, .inl vt_bench_pages)), (ht_acts, .inr (0, [.ref ht_acts_before, .int vt_acts_size])), (ht_told, .inl (cI, 4, .inl vt_told))]) (w1 := []) hP hD [] [0, 1, 2, 3, 4, 5, 6, 7, 8, 9, 10] rfl rfl (by decide) (by decide) hk1 hFc hP1 hD1
        clear hP1 hK1 hD1 hPc hDc hFc hk1 hz1 hvm eth
        generalize H1 = H at hP hS ⊢
        have hP : va_P (dC, dI) vwCl [(ht, .inr (4, [.ref ht_text, .ref ht_bench, .ref ht_acts, .ref ht_drawers, .ref ht_told, .ref ht_pagesOfTrial, .ref ht_kept, .int vt_spoken, .long vt_nowSeed])), (ht_text, .inr (2, [.ref ht_text_letters, .int vt_text_size])), (ht_bench, .inr (1, [.ref ht_bench_drops, .ref ht_bench_from, .ref ht_bench_to, .ref ht_bench_tires, .ref ht_bench_copies, .ref ht_bench_pages, .int vt_bench_size])), (ht_bench_drops, .inl (cI, 4, .inl vt_bench_drops)), (ht_bench_from, .inl (cI, 4, .inl vt_bench_from)), (ht_bench_to, .inl (cI, 4, .inl vt_bench_to)), (ht_bench_tires, .inl (cI, 4, .inl vt_bench_tires)), (ht_bench_copies, .inl (cI, 4, .inl vt_bench_copies)), (ht_bench_pages, .inl (cI, 4, .inl vt_bench_pages)), (ht_acts, .inr (0, [.ref ht_acts_before, .int vt_acts_size])), (ht_told, .inl (cI, 4, .inl vt_told))] H := hP
        have hD : va_D A [(ht, .inr (4, [.ref ht_text, .ref ht_bench, .ref ht_acts, .ref ht_drawers, .ref ht_told, .ref ht_pagesOfTrial, .ref ht_kept, .int vt_spoken, .long vt_nowSeed])), (ht_text, .inr (2, [.ref ht_text_letters, .int vt_text_size])), (ht_bench, .inr (1, [.ref ht_bench_drops, .ref ht_bench_from, .ref ht_bench_to, .ref ht_bench_tires, .ref ht_bench_copies, .ref ht_bench_pages, .int vt_bench_size])), (ht_bench_drops, .inl (cI, 4, .inl vt_bench_drops)), (ht_bench_from, .inl (cI, 4, .inl vt_bench_from)), (ht_bench_to, .inl (cI, 4, .inl vt_bench_to)), (ht_bench_tires, .inl (cI, 4, .inl vt_bench_tires)), (ht_bench_copies, .inl (cI, 4, .inl vt_bench_copies)), (ht_bench_pages, .inl (cI, 4, .inl vt_bench_pages)), (ht_acts, .inr (0, [.ref ht_acts_before, .int vt_acts_size])), (ht_told, .inl (cI, 4, .inl vt_told))] := hD
        have he := Option.some.inj hf
        have hP9 := hP
        have hD9 := hD
        exact W.iret (v := x4) hx hb hr (fun t eth hW => ⟨⟨x4, vt_bench_pages, rfl, ⟨(congrArg Prod.fst he).symm, (congrArg Prod.snd he).symm⟩, by rw [eth]; exact hP9, va_K.moved hW.alike hK, hD9⟩, hS.F eth⟩) hS.2.2 dX5_count_63
      · replace hf := dg_f c3 hf
        by_cases c5 : a1 = (3:Int32)
        · replace hf := dg_t c5 hf
          refine lv_tableIn (off := 63) (tgt := 64) hx hb dX5_count_1 (by rw [c5]; decide) (by rw [c5]; decide) (by rw [c5]; decide) (by decide) ?_
          refine lv_aload_n hx hb dX5_count_64 rfl (lv_at hl 0 rfl) ?_
          refine va_get (D := (dC, dI)) (ci := 4) (v := .ref ht_acts) (C := RX5) (T := TX5) (N := 9) hx hb hts hinX5 hown hK hP 0 rfl rfl 2 (by decide) hw5 (fun _ h9 => h9) rfl dX5_count_65 ?_
          refine va_get (D := (dC, dI)) (ci := 0) (v := .int vt_acts_size) (C := RX0) (T := TX0) (N := 2) hx hb hts hinX0 hown hK hP 9 rfl rfl 1 (by decide) hw6 (fun _ h9 => h9) rfl dX5_count_68 ?_
          have he := Option.some.inj hf
          have hP9 := hP
          have hD9 := hD
          exact W.iret (v := vt_acts_size) hx hb hr (fun t eth hW => ⟨⟨vt_acts_size, vt_bench_pages, rfl, ⟨(congrArg Prod.fst he).symm, (congrArg Prod.snd he).symm⟩, by rw [eth]; exact hP9, va_K.moved hW.alike hK, hD9⟩, hS.F eth⟩) hS.2.2 dX5_count_71
        · replace hf := dg_f c5 hf
          by_cases c6 : a1 = (4:Int32)
          · replace hf := dg_t c6 hf
            refine lv_tableIn (off := 71) (tgt := 72) hx hb dX5_count_1 (by rw [c6]; decide) (by rw [c6]; decide) (by rw [c6]; decide) (by decide) ?_
            refine lv_aload_n hx hb dX5_count_72 rfl (lv_at hl 0 rfl) ?_
            obtain ⟨x7, hx7, hf⟩ := dg_bind hf
            have hPc : va_P (dC, dI) vwCl [(ht, .inr (4, [.ref ht_text, .ref ht_bench, .ref ht_acts, .ref ht_drawers, .ref ht_told, .ref ht_pagesOfTrial, .ref ht_kept, .int vt_spoken, .long vt_nowSeed])), (ht_bench, .inr (1, [.ref ht_bench_drops, .ref ht_bench_from, .ref ht_bench_to, .ref ht_bench_tires, .ref ht_bench_copies, .ref ht_bench_pages, .int vt_bench_size])), (ht_told, .inl (cI, 4, .inl vt_told))] s.heap := hP.sub [0, 2, 10] rfl
            have hDc : va_D A [(ht, .inr (4, [.ref ht_text, .ref ht_bench, .ref ht_acts, .ref ht_drawers, .ref ht_told, .ref ht_pagesOfTrial, .ref ht_kept, .int vt_spoken, .long vt_nowSeed])), (ht_bench, .inr (1, [.ref ht_bench_drops, .ref ht_bench_from, .ref ht_bench_to, .ref ht_bench_tires, .ref ht_bench_copies, .ref ht_bench_pages, .int vt_bench_size])), (ht_told, .inl (cI, 4, .inl vt_told))] := hD.sub [0, 2, 10] (by decide) rfl
            have hFc := va_free (wc := [(ht, .inr (4, [.ref ht_text, .ref ht_bench, .ref ht_acts, .ref ht_drawers, .ref ht_told, .ref ht_pagesOfTrial, .ref ht_kept, .int vt_spoken, .long vt_nowSeed])), (ht_bench, .inr (1, [.ref ht_bench_drops, .ref ht_bench_from, .ref ht_bench_to, .ref ht_bench_tires, .ref ht_bench_copies, .ref ht_bench_pages, .int vt_bench_size])), (ht_told, .inl (cI, 4, .inl vt_told))]) hD hS hA [0, 2, 10] rfl
            refine va_calli (va_runV (As := []) (rest := []) ⟨hx, hb, hml, hown, hts⟩ (k_X5_setOfTold l dC dI cI cJ cZ s.heap.size ht ht_text ht_bench ht_acts ht_drawers ht_told ht_pagesOfTrial ht_kept ht_bench_drops ht_bench_from ht_bench_to ht_bench_tires ht_bench_copies ht_bench_pages vt_spoken vt_nowSeed vt_bench_size vt_told N x7 hx7) (cwV 0 hts gX5_count_X5_setOfTold rfl rfl rfl hd_X5_setOfTold ⟨Nat.le_of_ble_eq_true rfl, Nat.le_of_ble_eq_true rfl⟩) ⟨blind_pc, va_recv hK hPc (ci := 4) (q0 := 0) rfl rfl, pre_pc hPc hK hDc⟩ rfl rfl hl.1 rfl (lv_room (Nat.le_of_ble_eq_true rfl)) dX5_count_73 ⟨Nat.zero_le _, Nat.zero_le _⟩) hS (fun q _ h => hFc q h) hFc (fun r u t H1 locs eth hvm hw hB hz1 hk1 hS => ?_)
            obtain ⟨hP1, hK1, hD1⟩ := hB
            rw [eth] at hP1
            subst hw
            obtain ⟨hP, hD⟩ := va_join (wr := [(ht_text, .inr (2, [.ref ht_text_letters, .int vt_text_size])), (ht_bench_drops, .inl (cI, 4, .inl vt_bench_drops)), (ht_bench_from, .inl (cI, 4, .inl vt_bench_from)), (ht_bench_to, .inl (cI, 4, .inl vt_bench_to)), (ht_bench_tires, .inl (cI, 4, .inl vt_bench_tires)), (ht_bench_copies, .inl (cI, 4, .inl vt_bench_copies)), (ht_bench_pages, .inl (cI, 4, .inl vt_bench_pages)), (ht_acts, .inr (0, [.ref ht_acts_before, .int vt_acts_size]))]) (w1 := [(ht, .inr (4, [.ref ht_text, .ref ht_bench, .ref ht_acts, .ref ht_drawers, .ref ht_told, .ref ht_pagesOfTrial, .ref ht_kept, .int vt_spoken, .long vt_nowSeed])), (ht_bench, .inr (1, [.ref ht_bench_drops, .ref ht_bench_from, .ref ht_bench_to, .ref ht_bench_tires, .ref ht_bench_copies, .ref ht_bench_pages, .int vt_bench_size])), (ht_told, .inl (cI, 4, .inl vt_told))]) hP hD [0, 2, 10] [1, 3, 4, 5, 6, 7, 8, 9] rfl rfl (by decide) (by decide) hk1 hFc hP1 hD1
            clear hP1 hK1 hD1 hPc hDc hFc hk1 hz1 hvm eth
            generalize H1 = H at hP hS ⊢
            have hP : va_P (dC, dI) vwCl [(ht_text, .inr (2, [.ref ht_text_letters, .int vt_text_size])), (ht_bench_drops, .inl (cI, 4, .inl vt_bench_drops)), (ht_bench_from, .inl (cI, 4, .inl vt_bench_from)), (ht_bench_to, .inl (cI, 4, .inl vt_bench_to)), (ht_bench_tires, .inl (cI, 4, .inl vt_bench_tires)), (ht_bench_copies, .inl (cI, 4, .inl vt_bench_copies)), (ht_bench_pages, .inl (cI, 4, .inl vt_bench_pages)), (ht_acts, .inr (0, [.ref ht_acts_before, .int vt_acts_size])), (ht, .inr (4, [.ref ht_text, .ref ht_bench, .ref ht_acts, .ref ht_drawers, .ref ht_told, .ref ht_pagesOfTrial, .ref ht_kept, .int vt_spoken, .long vt_nowSeed])), (ht_bench, .inr (1, [.ref ht_bench_drops, .ref ht_bench_from, .ref ht_bench_to, .ref ht_bench_tires, .ref ht_bench_copies, .ref ht_bench_pages, .int vt_bench_size])), (ht_told, .inl (cI, 4, .inl vt_told))] H := hP
            have hD : va_D A [(ht_text, .inr (2, [.ref ht_text_letters, .int vt_text_size])), (ht_bench_drops, .inl (cI, 4, .inl vt_bench_drops)), (ht_bench_from, .inl (cI, 4, .inl vt_bench_from)), (ht_bench_to, .inl (cI, 4, .inl vt_bench_to)), (ht_bench_tires, .inl (cI, 4, .inl vt_bench_tires)), (ht_bench_copies, .inl (cI, 4, .inl vt_bench_copies)), (ht_bench_pages, .inl (cI, 4, .inl vt_bench_pages)), (ht_acts, .inr (0, [.ref ht_acts_before, .int vt_acts_size])), (ht, .inr (4, [.ref ht_text, .ref ht_bench, .ref ht_acts, .ref ht_drawers, .ref ht_told, .ref ht_pagesOfTrial, .ref ht_kept, .int vt_spoken, .long vt_nowSeed])), (ht_bench, .inr (1, [.ref ht_bench_drops, .ref ht_bench_from, .ref ht_bench_to, .ref ht_bench_tires, .ref ht_bench_copies, .ref ht_bench_pages, .int vt_bench_size])), (ht_told, .inl (cI, 4, .inl vt_told))] := hD
            have he := Option.some.inj hf
            have hP9 := (hP.sub (ws' := [(ht, .inr (4, [.ref ht_text, .ref ht_bench, .ref ht_acts, .ref ht_drawers, .ref ht_told, .ref ht_pagesOfTrial, .ref ht_kept, .int vt_spoken, .long vt_nowSeed])), (ht_text, .inr (2, [.ref ht_text_letters, .int vt_text_size])), (ht_bench, .inr (1, [.ref ht_bench_drops, .ref ht_bench_from, .ref ht_bench_to, .ref ht_bench_tires, .ref ht_bench_copies, .ref ht_bench_pages, .int vt_bench_size])), (ht_bench_drops, .inl (cI, 4, .inl vt_bench_drops)), (ht_bench_from, .inl (cI, 4, .inl vt_bench_from)), (ht_bench_to, .inl (cI, 4, .inl vt_bench_to)), (ht_bench_tires, .inl (cI, 4, .inl vt_bench_tires)), (ht_bench_copies, .inl (cI, 4, .inl vt_bench_copies)), (ht_bench_pages, .inl (cI, 4, .inl vt_bench_pages)), (ht_acts, .inr (0, [.ref ht_acts_before, .int vt_acts_size])), (ht_told, .inl (cI, 4, .inl vt_told))]) [8, 0, 9, 1, 2, 3, 4, 5, 6, 7, 10] rfl)
            have hD9 := (hD.sub (ws' := [(ht, .inr (4, [.ref ht_text, .ref ht_bench, .ref ht_acts, .ref ht_drawers, .ref ht_told, .ref ht_pagesOfTrial, .ref ht_kept, .int vt_spoken, .long vt_nowSeed])), (ht_text, .inr (2, [.ref ht_text_letters, .int vt_text_size])), (ht_bench, .inr (1, [.ref ht_bench_drops, .ref ht_bench_from, .ref ht_bench_to, .ref ht_bench_tires, .ref ht_bench_copies, .ref ht_bench_pages, .int vt_bench_size])), (ht_bench_drops, .inl (cI, 4, .inl vt_bench_drops)), (ht_bench_from, .inl (cI, 4, .inl vt_bench_from)), (ht_bench_to, .inl (cI, 4, .inl vt_bench_to)), (ht_bench_tires, .inl (cI, 4, .inl vt_bench_tires)), (ht_bench_copies, .inl (cI, 4, .inl vt_bench_copies)), (ht_bench_pages, .inl (cI, 4, .inl vt_bench_pages)), (ht_acts, .inr (0, [.ref ht_acts_before, .int vt_acts_size])), (ht_told, .inl (cI, 4, .inl vt_told))]) [8, 0, 9, 1, 2, 3, 4, 5, 6, 7, 10] (by decide) rfl)
            exact W.iret (v := x7) hx hb hr (fun t eth hW => ⟨⟨x7, vt_bench_pages, rfl, ⟨(congrArg Prod.fst he).symm, (congrArg Prod.snd he).symm⟩, by rw [eth]; exact hP9, va_K.moved hW.alike hK, hD9⟩, hS.F eth⟩) hS.2.2 dX5_count_76
          · replace hf := dg_f c6 hf
            by_cases c8 : a1 = (5:Int32)
            · replace hf := dg_t c8 hf
              refine lv_tableIn (off := 76) (tgt := 77) hx hb dX5_count_1 (by rw [c8]; decide) (by rw [c8]; decide) (by rw [c8]; decide) (by decide) ?_
              refine lv_aload_n hx hb dX5_count_77 rfl (lv_at hl 0 rfl) ?_
              refine va_get (D := (dC, dI)) (ci := 4) (v := .ref ht_bench) (C := RX5) (T := TX5) (N := 9) hx hb hts hinX5 hown hK hP 0 rfl rfl 1 (by decide) hw2 (fun _ h9 => h9) rfl dX5_count_78 ?_
              refine lv_aload_n hx hb dX5_count_81 rfl (lv_at hl 0 rfl) ?_
              refine va_get (D := (dC, dI)) (ci := 4) (v := .int vt_spoken) (C := RX5) (T := TX5) (N := 9) hx hb hts hinX5 hown hK hP 0 rfl rfl 7 (by decide) hw4 (fun _ h9 => h9) rfl dX5_count_82 ?_
              obtain ⟨x9, hx9, hf⟩ := dg_bind hf
              have hPc : va_P (dC, dI) vwCl [(ht_bench, .inr (1, [.ref ht_bench_drops, .ref ht_bench_from, .ref ht_bench_to, .ref ht_bench_tires, .ref ht_bench_copies, .ref ht_bench_pages, .int vt_bench_size])), (ht_bench_drops, .inl (cI, 4, .inl vt_bench_drops)), (ht_bench_from, .inl (cI, 4, .inl vt_bench_from)), (ht_bench_to, .inl (cI, 4, .inl vt_bench_to)), (ht_bench_tires, .inl (cI, 4, .inl vt_bench_tires)), (ht_bench_copies, .inl (cI, 4, .inl vt_bench_copies)), (ht_bench_pages, .inl (cI, 4, .inl vt_bench_pages))] s.heap := hP.sub [2, 3, 4, 5, 6, 7, 8] rfl
              have hDc : va_D A [(ht_bench, .inr (1, [.ref ht_bench_drops, .ref ht_bench_from, .ref ht_bench_to, .ref ht_bench_tires, .ref ht_bench_copies, .ref ht_bench_pages, .int vt_bench_size])), (ht_bench_drops, .inl (cI, 4, .inl vt_bench_drops)), (ht_bench_from, .inl (cI, 4, .inl vt_bench_from)), (ht_bench_to, .inl (cI, 4, .inl vt_bench_to)), (ht_bench_tires, .inl (cI, 4, .inl vt_bench_tires)), (ht_bench_copies, .inl (cI, 4, .inl vt_bench_copies)), (ht_bench_pages, .inl (cI, 4, .inl vt_bench_pages))] := hD.sub [2, 3, 4, 5, 6, 7, 8] (by decide) rfl
              have hFc := va_free (wc := [(ht_bench, .inr (1, [.ref ht_bench_drops, .ref ht_bench_from, .ref ht_bench_to, .ref ht_bench_tires, .ref ht_bench_copies, .ref ht_bench_pages, .int vt_bench_size])), (ht_bench_drops, .inl (cI, 4, .inl vt_bench_drops)), (ht_bench_from, .inl (cI, 4, .inl vt_bench_from)), (ht_bench_to, .inl (cI, 4, .inl vt_bench_to)), (ht_bench_tires, .inl (cI, 4, .inl vt_bench_tires)), (ht_bench_copies, .inl (cI, 4, .inl vt_bench_copies)), (ht_bench_pages, .inl (cI, 4, .inl vt_bench_pages))]) hD hS hA [2, 3, 4, 5, 6, 7, 8] rfl
              refine va_callv (va_runV (As := [.int vt_spoken]) (rest := []) ⟨hx, hb, hml, hown, hts⟩ (k_X1_takeDown l dC dI cI cJ cZ s.heap.size ht_bench ht_bench_drops ht_bench_from ht_bench_to ht_bench_tires ht_bench_copies ht_bench_pages vt_spoken vt_bench_size vt_bench_drops vt_bench_from vt_bench_to vt_bench_tires vt_bench_copies vt_bench_pages N x9 hx9) (cwV 1 hts gX5_count_X1_takeDown rfl rfl rfl hd_X1_takeDown ⟨Nat.le_of_ble_eq_true rfl, Nat.le_of_ble_eq_true rfl⟩) ⟨blind_pc, va_recv hK hPc (ci := 1) (q0 := 0) rfl rfl, pre_pc hPc hK hDc⟩ rfl rfl hl.1 rfl (lv_room (Nat.le_of_ble_eq_true rfl)) dX5_count_85 ⟨Nat.zero_le _, Nat.zero_le _⟩) hS (fun q _ h => hFc q h) hFc (fun u t H1 locs eth hvm hw hB hz1 hk1 hS => ?_)
              obtain ⟨hP1, hK1, hD1⟩ := hB
              rw [eth] at hP1
              subst hw
              obtain ⟨hP, hD⟩ := va_join (wr := [(ht, .inr (4, [.ref ht_text, .ref ht_bench, .ref ht_acts, .ref ht_drawers, .ref ht_told, .ref ht_pagesOfTrial, .ref ht_kept, .int vt_spoken, .long vt_nowSeed])), (ht_text, .inr (2, [.ref ht_text_letters, .int vt_text_size])), (ht_acts, .inr (0, [.ref ht_acts_before, .int vt_acts_size])), (ht_told, .inl (cI, 4, .inl vt_told))]) (w1 := [(ht_bench, .inr (1, [.ref ht_bench_drops, .ref ht_bench_from, .ref ht_bench_to, .ref ht_bench_tires, .ref ht_bench_copies, .ref ht_bench_pages, .int vt_bench_size])), (ht_bench_drops, .inl (cI, 4, .inl vt_bench_drops)), (ht_bench_from, .inl (cI, 4, .inl vt_bench_from)), (ht_bench_to, .inl (cI, 4, .inl vt_bench_to)), (ht_bench_tires, .inl (cI, 4, .inl vt_bench_tires)), (ht_bench_copies, .inl (cI, 4, .inl vt_bench_copies)), (ht_bench_pages, .inl (cI, 4, .inl x9))]) hP hD [2, 3, 4, 5, 6, 7, 8] [0, 1, 9, 10] rfl rfl (by decide) (by decide) hk1 hFc hP1 hD1
              clear hP1 hK1 hD1 hPc hDc hFc hk1 hz1 hvm eth
              generalize H1 = H at hP hS ⊢
              have hP : va_P (dC, dI) vwCl [(ht, .inr (4, [.ref ht_text, .ref ht_bench, .ref ht_acts, .ref ht_drawers, .ref ht_told, .ref ht_pagesOfTrial, .ref ht_kept, .int vt_spoken, .long vt_nowSeed])), (ht_text, .inr (2, [.ref ht_text_letters, .int vt_text_size])), (ht_acts, .inr (0, [.ref ht_acts_before, .int vt_acts_size])), (ht_told, .inl (cI, 4, .inl vt_told)), (ht_bench, .inr (1, [.ref ht_bench_drops, .ref ht_bench_from, .ref ht_bench_to, .ref ht_bench_tires, .ref ht_bench_copies, .ref ht_bench_pages, .int vt_bench_size])), (ht_bench_drops, .inl (cI, 4, .inl vt_bench_drops)), (ht_bench_from, .inl (cI, 4, .inl vt_bench_from)), (ht_bench_to, .inl (cI, 4, .inl vt_bench_to)), (ht_bench_tires, .inl (cI, 4, .inl vt_bench_tires)), (ht_bench_copies, .inl (cI, 4, .inl vt_bench_copies)), (ht_bench_pages, .inl (cI, 4, .inl x9))] H := hP
              have hD : va_D A [(ht, .inr (4, [.ref ht_text, .ref ht_bench, .ref ht_acts, .ref ht_drawers, .ref ht_told, .ref ht_pagesOfTrial, .ref ht_kept, .int vt_spoken, .long vt_nowSeed])), (ht_text, .inr (2, [.ref ht_text_letters, .int vt_text_size])), (ht_acts, .inr (0, [.ref ht_acts_before, .int vt_acts_size])), (ht_told, .inl (cI, 4, .inl vt_told)), (ht_bench, .inr (1, [.ref ht_bench_drops, .ref ht_bench_from, .ref ht_bench_to, .ref ht_bench_tires, .ref ht_bench_copies, .ref ht_bench_pages, .int vt_bench_size])), (ht_bench_drops, .inl (cI, 4, .inl vt_bench_drops)), (ht_bench_from, .inl (cI, 4, .inl vt_bench_from)), (ht_bench_to, .inl (cI, 4, .inl vt_bench_to)), (ht_bench_tires, .inl (cI, 4, .inl vt_bench_tires)), (ht_bench_copies, .inl (cI, 4, .inl vt_bench_copies)), (ht_bench_pages, .inl (cI, 4, .inl x9))] := hD
              refine lv_aload_n hx hb dX5_count_88 rfl (lv_at hl 0 rfl) ?_
              refine va_get (D := (dC, dI)) (ci := 4) (v := .ref ht_bench) (C := RX5) (T := TX5) (N := 9) hx hb hts hinX5 hown hK hP 0 rfl rfl 1 (by decide) hw2 (fun _ h9 => h9) rfl dX5_count_89 ?_
              obtain ⟨x10, hx10, hf⟩ := dg_bind hf
              have hPc : va_P (dC, dI) vwCl [(ht_bench, .inr (1, [.ref ht_bench_drops, .ref ht_bench_from, .ref ht_bench_to, .ref ht_bench_tires, .ref ht_bench_copies, .ref ht_bench_pages, .int vt_bench_size])), (ht_bench_pages, .inl (cI, 4, .inl x9))] H := hP.sub [4, 10] rfl
              have hDc : va_D A [(ht_bench, .inr (1, [.ref ht_bench_drops, .ref ht_bench_from, .ref ht_bench_to, .ref ht_bench_tires, .ref ht_bench_copies, .ref ht_bench_pages, .int vt_bench_size])), (ht_bench_pages, .inl (cI, 4, .inl x9))] := hD.sub [4, 10] (by decide) rfl
              have hFc := va_free (wc := [(ht_bench, .inr (1, [.ref ht_bench_drops, .ref ht_bench_from, .ref ht_bench_to, .ref ht_bench_tires, .ref ht_bench_copies, .ref ht_bench_pages, .int vt_bench_size])), (ht_bench_pages, .inl (cI, 4, .inl x9))]) hD hS hA [4, 10] rfl
              refine va_calli (va_runV (As := []) (rest := []) ⟨hx, hb, hml, hown, hts⟩ (k_X1_wordsOnPages l dC dI cI cJ cZ H.size ht_bench ht_bench_drops ht_bench_from ht_bench_to ht_bench_tires ht_bench_copies ht_bench_pages vt_bench_size x9 N x10 hx10) (cwV 0 hts gX5_count_X1_wordsOnPages rfl rfl rfl hd_X1_wordsOnPages ⟨Nat.le_of_ble_eq_true rfl, Nat.le_of_ble_eq_true rfl⟩) ⟨blind_pc, va_recv hK hPc (ci := 1) (q0 := 0) rfl rfl, pre_pc hPc hK hDc⟩ rfl rfl hl.1 rfl (lv_room (Nat.le_of_ble_eq_true rfl)) dX5_count_92 ⟨Nat.zero_le _, Nat.zero_le _⟩) hS (fun q _ h => hFc q h) hFc (fun r u t H1 locs eth hvm hw hB hz1 hk1 hS => ?_)
              obtain ⟨hP1, hK1, hD1⟩ := hB
              rw [eth] at hP1
              subst hw
              obtain ⟨hP, hD⟩ := va_join (wr := [(ht, .inr (4, [.ref ht_text, .ref ht_bench, .ref ht_acts, .ref ht_drawers, .ref ht_told, .ref ht_pagesOfTrial, .ref ht_kept, .int vt_spoken, .long vt_nowSeed])), (ht_text, .inr (2, [.ref ht_text_letters, .int vt_text_size])), (ht_acts, .inr (0, [.ref ht_acts_before, .int vt_acts_size])), (ht_told, .inl (cI, 4, .inl vt_told)), (ht_bench_drops, .inl (cI, 4, .inl vt_bench_drops)), (ht_bench_from, .inl (cI, 4, .inl vt_bench_from)), (ht_bench_to, .inl (cI, 4, .inl vt_bench_to)), (ht_bench_tires, .inl (cI, 4, .inl vt_bench_tires)), (ht_bench_copies, .inl (cI, 4, .inl vt_bench_copies))]) (w1 := [(ht_bench, .inr (1, [.ref ht_bench_drops, .ref ht_bench_from, .ref ht_bench_to, .ref ht_bench_tires, .ref ht_bench_copies, .ref ht_bench_pages, .int vt_bench_size])), (ht_bench_pages, .inl (cI, 4, .inl x9))]) hP hD [4, 10] [0, 1, 2, 3, 5, 6, 7, 8, 9] rfl rfl (by decide) (by decide) hk1 hFc hP1 hD1
              clear hP1 hK1 hD1 hPc hDc hFc hk1 hz1 hvm eth
              generalize H1 = H at hP hS ⊢
              have hP : va_P (dC, dI) vwCl [(ht, .inr (4, [.ref ht_text, .ref ht_bench, .ref ht_acts, .ref ht_drawers, .ref ht_told, .ref ht_pagesOfTrial, .ref ht_kept, .int vt_spoken, .long vt_nowSeed])), (ht_text, .inr (2, [.ref ht_text_letters, .int vt_text_size])), (ht_acts, .inr (0, [.ref ht_acts_before, .int vt_acts_size])), (ht_told, .inl (cI, 4, .inl vt_told)), (ht_bench_drops, .inl (cI, 4, .inl vt_bench_drops)), (ht_bench_from, .inl (cI, 4, .inl vt_bench_from)), (ht_bench_to, .inl (cI, 4, .inl vt_bench_to)), (ht_bench_tires, .inl (cI, 4, .inl vt_bench_tires)), (ht_bench_copies, .inl (cI, 4, .inl vt_bench_copies)), (ht_bench, .inr (1, [.ref ht_bench_drops, .ref ht_bench_from, .ref ht_bench_to, .ref ht_bench_tires, .ref ht_bench_copies, .ref ht_bench_pages, .int vt_bench_size])), (ht_bench_pages, .inl (cI, 4, .inl x9))] H := hP
              have hD : va_D A [(ht, .inr (4, [.ref ht_text, .ref ht_bench, .ref ht_acts, .ref ht_drawers, .ref ht_told, .ref ht_pagesOfTrial, .ref ht_kept, .int vt_spoken, .long vt_nowSeed])), (ht_text, .inr (2, [.ref ht_text_letters, .int vt_text_size])), (ht_acts, .inr (0, [.ref ht_acts_before, .int vt_acts_size])), (ht_told, .inl (cI, 4, .inl vt_told)), (ht_bench_drops, .inl (cI, 4, .inl vt_bench_drops)), (ht_bench_from, .inl (cI, 4, .inl vt_bench_from)), (ht_bench_to, .inl (cI, 4, .inl vt_bench_to)), (ht_bench_tires, .inl (cI, 4, .inl vt_bench_tires)), (ht_bench_copies, .inl (cI, 4, .inl vt_bench_copies)), (ht_bench, .inr (1, [.ref ht_bench_drops, .ref ht_bench_from, .ref ht_bench_to, .ref ht_bench_tires, .ref ht_bench_copies, .ref ht_bench_pages, .int vt_bench_size])), (ht_bench_pages, .inl (cI, 4, .inl x9))] := hD
              have he := Option.some.inj hf
              have hP9 := (hP.sub (ws' := [(ht, .inr (4, [.ref ht_text, .ref ht_bench, .ref ht_acts, .ref ht_drawers, .ref ht_told, .ref ht_pagesOfTrial, .ref ht_kept, .int vt_spoken, .long vt_nowSeed])), (ht_text, .inr (2, [.ref ht_text_letters, .int vt_text_size])), (ht_bench, .inr (1, [.ref ht_bench_drops, .ref ht_bench_from, .ref ht_bench_to, .ref ht_bench_tires, .ref ht_bench_copies, .ref ht_bench_pages, .int vt_bench_size])), (ht_bench_drops, .inl (cI, 4, .inl vt_bench_drops)), (ht_bench_from, .inl (cI, 4, .inl vt_bench_from)), (ht_bench_to, .inl (cI, 4, .inl vt_bench_to)), (ht_bench_tires, .inl (cI, 4, .inl vt_bench_tires)), (ht_bench_copies, .inl (cI, 4, .inl vt_bench_copies)), (ht_bench_pages, .inl (cI, 4, .inl x9)), (ht_acts, .inr (0, [.ref ht_acts_before, .int vt_acts_size])), (ht_told, .inl (cI, 4, .inl vt_told))]) [0, 1, 9, 4, 5, 6, 7, 8, 10, 2, 3] rfl)
              have hD9 := (hD.sub (ws' := [(ht, .inr (4, [.ref ht_text, .ref ht_bench, .ref ht_acts, .ref ht_drawers, .ref ht_told, .ref ht_pagesOfTrial, .ref ht_kept, .int vt_spoken, .long vt_nowSeed])), (ht_text, .inr (2, [.ref ht_text_letters, .int vt_text_size])), (ht_bench, .inr (1, [.ref ht_bench_drops, .ref ht_bench_from, .ref ht_bench_to, .ref ht_bench_tires, .ref ht_bench_copies, .ref ht_bench_pages, .int vt_bench_size])), (ht_bench_drops, .inl (cI, 4, .inl vt_bench_drops)), (ht_bench_from, .inl (cI, 4, .inl vt_bench_from)), (ht_bench_to, .inl (cI, 4, .inl vt_bench_to)), (ht_bench_tires, .inl (cI, 4, .inl vt_bench_tires)), (ht_bench_copies, .inl (cI, 4, .inl vt_bench_copies)), (ht_bench_pages, .inl (cI, 4, .inl x9)), (ht_acts, .inr (0, [.ref ht_acts_before, .int vt_acts_size])), (ht_told, .inl (cI, 4, .inl vt_told))]) [0, 1, 9, 4, 5, 6, 7, 8, 10, 2, 3] (by decide) rfl)
              exact W.iret (v := x10) hx hb hr (fun t eth hW => ⟨⟨x10, x9, rfl, ⟨(congrArg Prod.fst he).symm, (congrArg Prod.snd he).symm⟩, by rw [eth]; exact hP9, va_K.moved hW.alike hK, hD9⟩, hS.F eth⟩) hS.2.2 dX5_count_95
            · replace hf := dg_f c8 hf
              refine lv_tableOut (tgt := 96) hx hb dX5_count_1 (by have qc1 := lv_neT (a := 0) c1 (by decide); have qc2 := lv_neT (a := 1) c2 (by decide); have qc3 := lv_neT (a := 2) c3 (by decide); have qc5 := lv_neT (a := 3) c5 (by decide); have qc6 := lv_neT (a := 4) c6 (by decide); have qc8 := lv_neT (a := 5) c8 (by decide); omega) (by decide) ?_
              refine lv_bipush (v := -2) hx hb dX5_count_96 (by decide) ?_
              have he := Option.some.inj hf
              have hP9 := hP
              have hD9 := hD
              exact W.iret (v := (-2:Int32)) hx hb hr (fun t eth hW => ⟨⟨(-2:Int32), vt_bench_pages, rfl, ⟨(congrArg Prod.fst he).symm, (congrArg Prod.snd he).symm⟩, by rw [eth]; exact hP9, va_K.moved hW.alike hK, hD9⟩, hS.F eth⟩) hS.2.2 dX5_count_98
theorem hd_X6_in : yX6_in.cls ≠ "java/lang/invoke/MethodHandle" ∧ yX6_in.cls ≠ "java/lang/invoke/VarHandle" ∧ (parseMethodDescriptor yX6_in.desc).map (fun d => d.parameters.length) = some 3 := by decide +kernel
abbrev rm_X6_in : Room := { frames := 0, cells := 0, slots := 0, locals := 0 }
abbrev q_X6_in (dC : Nat → ClassId) (dI : Nat → Nat → Nat) (cI cJ cZ : ClassId) (R : Int32) (A : Nat → Prop) : Array Value → State → Outcome → State → Prop := va_Qi (fun (r : Int32) (_ : Unit) => R = r) (fun (u : Unit) (t : State) => va_P (dC, dI) vwCl [] t.heap ∧ va_K (dC, dI) vwCl [(cI, .int), (cJ, .long), (cZ, .boolean)] t ∧ va_D A []) A
set_option maxHeartbeats 4000000 in
set_option maxRecDepth 100000 in
theorem k_X6_in (l : Launch) (dC : Nat → ClassId) (dI : Nat → Nat → Nat) (cI cJ cZ : ClassId) (sz : Nat) (a0 : Int64) (a2 : Int64) (a4 : Int64) (N : Nat) (R : Int32) (hf : f_X6_in N a0 a2 a4 = some R) : Met l yX6_in wsX6_in (rm_X6_in) (va_Pc [.long a0, .long a2, .long a4] (fun U => U.heap.size = sz ∧ va_P (dC, dI) vwCl [] U.heap ∧ va_K (dC, dI) vwCl [(cI, .int), (cJ, .long), (cZ, .boolean)] U ∧ va_D (fun _ => True) [])) (q_X6_in dC dI cI cJ cZ  R (va_A [] sz)) 0 0 (va_A [] sz) := by
  refine Met.ofW (cc := cX6_in) (maxL := 6) (ret := (some .boolean)) (by decide) rfl ?_
  intro p e s m args below meth c s₁ B hml hv
  obtain ⟨rfl, hsz, hP, hK, hD0⟩ := hv
  have hx := B.exec
  have hb := B.bytes
  have hr := B.returns
  have hts := atoms_spec (ws := wsX6_in) B.pre
  have hown : s.vm.findClass RX6 = some m.cls := findClass_of_methodNamed B.named
  have hlocks := B.notSynchronized
  clear B
  subst hsz
  have hD := hD0.self (sz := s.heap.size)
  clear hD0
  generalize hAe : va_A [] s.heap.size = A at hD ⊢
  have hA : ∀ q : Nat, s.heap.size ≤ q → A q := fun q h => by rw [← hAe]; exact Or.inr h
  clear hAe
  have hS : va_S A s.heap s.heap [] := va_S.rf
  have hl := lv_entry ([.long a0, .long a2, .long a4]) (n := 6) (Nat.le_of_ble_eq_true rfl)
  rw [lg_entry_eq]
  generalize (lg_sl ([.long a0, .long a2, .long a4]) ++ List.replicate (6 - (lg_sl ([.long a0, .long a2, .long a4])).length) Slot.unset).toArray = ls at hl ⊢
  have hl : lv_has ls 6 [(0, .long a0), (2, .long a2), (4, .long a4)] := hl
  unfold f_X6_in at hf
  refine lv_lload_n hx hb dX6_in_0 rfl (lv_at hl 0 rfl) ?_
  refine lv_lload_n hx hb dX6_in_1 rfl (lv_at hl 1 rfl) ?_
  refine W.lcmp hx hb dX6_in_2 ?_
  refine lv_if_lt (tgt := 17) hx hb dX6_in_3 (by decide) (fun c1 => ?_) (fun c1 => ?_)
  · replace hf := dg_t c1 hf
    refine lv_iconst (v := 0) hx hb dX6_in_17 (by decide) ?_
    have he := Option.some.inj hf
    have hP9 := hP
    have hD9 := hD
    exact W.zret (v := (0:Int32)) (ty := .boolean) hx hb hr (by decide) (fun t eth hW => ⟨⟨(0:Int32), (), rfl, he.symm, by rw [eth]; exact hP9, va_K.moved hW.alike hK, hD9⟩, hS.F eth⟩) hS.2.2 dX6_in_18
  · replace hf := dg_f c1 hf
    refine lv_lload_n hx hb dX6_in_6 rfl (lv_at hl 0 rfl) ?_
    refine lv_lload hx hb dX6_in_7 (lv_at hl 2 rfl) ?_
    refine W.lcmp hx hb dX6_in_9 ?_
    refine lv_if_gt (tgt := 17) hx hb dX6_in_10 (by decide) (fun c2 => ?_) (fun c2 => ?_)
    · replace hf := dg_t c2 hf
      refine lv_iconst (v := 0) hx hb dX6_in_17 (by decide) ?_
      have he := Option.some.inj hf
      have hP9 := hP
      have hD9 := hD
      exact W.zret (v := (0:Int32)) (ty := .boolean) hx hb hr (by decide) (fun t eth hW => ⟨⟨(0:Int32), (), rfl, he.symm, by rw [eth]; exact hP9, va_K.moved hW.alike hK, hD9⟩, hS.F eth⟩) hS.2.2 dX6_in_18
    · replace hf := dg_f c2 hf
      refine lv_iconst (v := 1) hx hb dX6_in_13 (by decide) ?_
      refine lv_goto (tgt := 18) hx hb dX6_in_14 (by decide) ?_
      have he := Option.some.inj hf
      have hP9 := hP
      have hD9 := hD
      exact W.zret (v := (1:Int32)) (ty := .boolean) hx hb hr (by decide) (fun t eth hW => ⟨⟨(1:Int32), (), rfl, he.symm, by rw [eth]; exact hP9, va_K.moved hW.alike hK, hD9⟩, hS.F eth⟩) hS.2.2 dX6_in_18
theorem hd_X6_has : yX6_has.cls ≠ "java/lang/invoke/MethodHandle" ∧ yX6_has.cls ≠ "java/lang/invoke/VarHandle" ∧ (parseMethodDescriptor yX6_has.desc).map (fun d => d.parameters.length) = some 2 := by decide +kernel
abbrev rm_X6_has : Room := { frames := 0, cells := 0, slots := 0, locals := 0 }
abbrev q_X6_has (dC : Nat → ClassId) (dI : Nat → Nat → Nat) (cI cJ cZ : ClassId) (R : Int32) (A : Nat → Prop) : Array Value → State → Outcome → State → Prop := va_Qi (fun (r : Int32) (_ : Unit) => R = r) (fun (u : Unit) (t : State) => va_P (dC, dI) vwCl [] t.heap ∧ va_K (dC, dI) vwCl [(cI, .int), (cJ, .long), (cZ, .boolean)] t ∧ va_D A []) A
set_option maxHeartbeats 4000000 in
set_option maxRecDepth 100000 in
theorem k_X6_has (l : Launch) (dC : Nat → ClassId) (dI : Nat → Nat → Nat) (cI cJ cZ : ClassId) (sz : Nat) (a0 : Int32) (a1 : Int32) (N : Nat) (R : Int32) (hf : f_X6_has N a0 a1 = some R) : Met l yX6_has wsX6_has (rm_X6_has) (va_Pc [.int a0, .int a1] (fun U => U.heap.size = sz ∧ va_P (dC, dI) vwCl [] U.heap ∧ va_K (dC, dI) vwCl [(cI, .int), (cJ, .long), (cZ, .boolean)] U ∧ va_D (fun _ => True) [])) (q_X6_has dC dI cI cJ cZ  R (va_A [] sz)) 0 0 (va_A [] sz) := by
  refine Met.ofW (cc := cX6_has) (maxL := 2) (ret := (some .boolean)) (by decide) rfl ?_
  intro p e s m args below meth c s₁ B hml hv
  obtain ⟨rfl, hsz, hP, hK, hD0⟩ := hv
  have hx := B.exec
  have hb := B.bytes
  have hr := B.returns
  have hts := atoms_spec (ws := wsX6_has) B.pre
  have hown : s.vm.findClass RX6 = some m.cls := findClass_of_methodNamed B.named
  have hlocks := B.notSynchronized
  clear B
  subst hsz
  have hD := hD0.self (sz := s.heap.size)
  clear hD0
  generalize hAe : va_A [] s.heap.size = A at hD ⊢
  have hA : ∀ q : Nat, s.heap.size ≤ q → A q := fun q h => by rw [← hAe]; exact Or.inr h
  clear hAe
  have hS : va_S A s.heap s.heap [] := va_S.rf
  have hl := lv_entry ([.int a0, .int a1]) (n := 2) (Nat.le_of_ble_eq_true rfl)
  rw [lg_entry_eq]
  generalize (lg_sl ([.int a0, .int a1]) ++ List.replicate (2 - (lg_sl ([.int a0, .int a1])).length) Slot.unset).toArray = ls at hl ⊢
  have hl : lv_has ls 2 [(0, .int a0), (1, .int a1)] := hl
  unfold f_X6_has at hf
  refine lv_iload_n hx hb dX6_has_0 rfl (lv_at hl 0 rfl) ?_
  refine lv_iload_n hx hb dX6_has_1 rfl (lv_at hl 1 rfl) ?_
  refine lv_ishr hx hb dX6_has_2 ?_
  refine lv_iconst (v := 1) hx hb dX6_has_3 (by decide) ?_
  refine lv_iand hx hb dX6_has_4 ?_
  refine lv_iconst (v := 1) hx hb dX6_has_5 (by decide) ?_
  refine lv_icmp_ne (tgt := 13) hx hb dX6_has_6 (by decide) (fun c1 => ?_) (fun c1 => ?_)
  · replace hf := dg_f c1 hf
    refine lv_iconst (v := 0) hx hb dX6_has_13 (by decide) ?_
    have he := Option.some.inj hf
    have hP9 := hP
    have hD9 := hD
    exact W.zret (v := (0:Int32)) (ty := .boolean) hx hb hr (by decide) (fun t eth hW => ⟨⟨(0:Int32), (), rfl, he.symm, by rw [eth]; exact hP9, va_K.moved hW.alike hK, hD9⟩, hS.F eth⟩) hS.2.2 dX6_has_14
  · replace hf := dg_t c1 hf
    refine lv_iconst (v := 1) hx hb dX6_has_9 (by decide) ?_
    refine lv_goto (tgt := 14) hx hb dX6_has_10 (by decide) ?_
    have he := Option.some.inj hf
    have hP9 := hP
    have hD9 := hD
    exact W.zret (v := (1:Int32)) (ty := .boolean) hx hb hr (by decide) (fun t eth hW => ⟨⟨(1:Int32), (), rfl, he.symm, by rw [eth]; exact hP9, va_K.moved hW.alike hK, hD9⟩, hS.F eth⟩) hS.2.2 dX6_has_14
theorem hd_X6_ones : yX6_ones.cls ≠ "java/lang/invoke/MethodHandle" ∧ yX6_ones.cls ≠ "java/lang/invoke/VarHandle" ∧ (parseMethodDescriptor yX6_ones.desc).map (fun d => d.parameters.length) = some 1 := by decide +kernel
abbrev rm_X6_ones : Room := { frames := 0, cells := 0, slots := 0, locals := 0 }
abbrev q_X6_ones (dC : Nat → ClassId) (dI : Nat → Nat → Nat) (cI cJ cZ : ClassId) (R : Int32) (A : Nat → Prop) : Array Value → State → Outcome → State → Prop := va_Qi (fun (r : Int32) (_ : Unit) => R = r) (fun (u : Unit) (t : State) => va_P (dC, dI) vwCl [] t.heap ∧ va_K (dC, dI) vwCl [(cI, .int), (cJ, .long), (cZ, .boolean)] t ∧ va_D A []) A
set_option maxHeartbeats 4000000 in
set_option maxRecDepth 100000 in
theorem k_X6_ones (l : Launch) (dC : Nat → ClassId) (dI : Nat → Nat → Nat) (cI cJ cZ : ClassId) (sz : Nat) (a0 : Int32) (N : Nat) (R : Int32) (hf : f_X6_ones N a0 = some R) : Met l yX6_ones wsX6_ones (rm_X6_ones) (va_Pc [.int a0] (fun U => U.heap.size = sz ∧ va_P (dC, dI) vwCl [] U.heap ∧ va_K (dC, dI) vwCl [(cI, .int), (cJ, .long), (cZ, .boolean)] U ∧ va_D (fun _ => True) [])) (q_X6_ones dC dI cI cJ cZ  R (va_A [] sz)) 0 0 (va_A [] sz) := by
  refine Met.ofW (cc := cX6_ones) (maxL := 1) (ret := (some .int)) (by decide) rfl ?_
  intro p e s m args below meth c s₁ B hml hv
  obtain ⟨rfl, hsz, hP, hK, hD0⟩ := hv
  have hx := B.exec
  have hb := B.bytes
  have hr := B.returns
  have hts := atoms_spec (ws := wsX6_ones) B.pre
  have hown : s.vm.findClass RX6 = some m.cls := findClass_of_methodNamed B.named
  have hlocks := B.notSynchronized
  clear B
  subst hsz
  have hD := hD0.self (sz := s.heap.size)
  clear hD0
  generalize hAe : va_A [] s.heap.size = A at hD ⊢
  have hA : ∀ q : Nat, s.heap.size ≤ q → A q := fun q h => by rw [← hAe]; exact Or.inr h
  clear hAe
  have hS : va_S A s.heap s.heap [] := va_S.rf
  have hl := lv_entry ([.int a0]) (n := 1) (Nat.le_of_ble_eq_true rfl)
  rw [lg_entry_eq]
  generalize (lg_sl ([.int a0]) ++ List.replicate (1 - (lg_sl ([.int a0])).length) Slot.unset).toArray = ls at hl ⊢
  have hl : lv_has ls 1 [(0, .int a0)] := hl
  unfold f_X6_ones at hf
  refine lv_iload_n hx hb dX6_ones_0 rfl (lv_at hl 0 rfl) ?_
  refine lv_iconst (v := 1) hx hb dX6_ones_1 (by decide) ?_
  refine lv_iand hx hb dX6_ones_2 ?_
  refine lv_iload_n hx hb dX6_ones_3 rfl (lv_at hl 0 rfl) ?_
  refine lv_iconst (v := 1) hx hb dX6_ones_4 (by decide) ?_
  refine lv_ishr hx hb dX6_ones_5 ?_
  refine lv_iconst (v := 1) hx hb dX6_ones_6 (by decide) ?_
  refine lv_iand hx hb dX6_ones_7 ?_
  refine lv_iadd hx hb dX6_ones_8 ?_
  refine lv_iload_n hx hb dX6_ones_9 rfl (lv_at hl 0 rfl) ?_
  refine lv_iconst (v := 2) hx hb dX6_ones_10 (by decide) ?_
  refine lv_ishr hx hb dX6_ones_11 ?_
  refine lv_iconst (v := 1) hx hb dX6_ones_12 (by decide) ?_
  refine lv_iand hx hb dX6_ones_13 ?_
  refine lv_iadd hx hb dX6_ones_14 ?_
  refine lv_iload_n hx hb dX6_ones_15 rfl (lv_at hl 0 rfl) ?_
  refine lv_iconst (v := 3) hx hb dX6_ones_16 (by decide) ?_
  refine lv_ishr hx hb dX6_ones_17 ?_
  refine lv_iconst (v := 1) hx hb dX6_ones_18 (by decide) ?_
  refine lv_iand hx hb dX6_ones_19 ?_
  refine lv_iadd hx hb dX6_ones_20 ?_
  have he := Option.some.inj hf
  have hP9 := hP
  have hD9 := hD
  exact W.iret (v := ((((a0 &&& (1:Int32)) + ((a0 >>> ((1:Int32) &&& 31)) &&& (1:Int32))) + ((a0 >>> ((2:Int32) &&& 31)) &&& (1:Int32))) + ((a0 >>> ((3:Int32) &&& 31)) &&& (1:Int32)))) hx hb hr (fun t eth hW => ⟨⟨((((a0 &&& (1:Int32)) + ((a0 >>> ((1:Int32) &&& 31)) &&& (1:Int32))) + ((a0 >>> ((2:Int32) &&& 31)) &&& (1:Int32))) + ((a0 >>> ((3:Int32) &&& 31)) &&& (1:Int32))), (), rfl, he.symm, by rw [eth]; exact hP9, va_K.moved hW.alike hK, hD9⟩, hS.F eth⟩) hS.2.2 dX6_ones_21
theorem hd_X6_fourTo : yX6_fourTo.cls ≠ "java/lang/invoke/MethodHandle" ∧ yX6_fourTo.cls ≠ "java/lang/invoke/VarHandle" ∧ (parseMethodDescriptor yX6_fourTo.desc).map (fun d => d.parameters.length) = some 1 := by decide +kernel
abbrev rm_X6_fourTo : Room := { frames := 0, cells := 0, slots := 0, locals := 0 }
abbrev q_X6_fourTo (dC : Nat → ClassId) (dI : Nat → Nat → Nat) (cI cJ cZ : ClassId) (R : Int32) (A : Nat → Prop) : Array Value → State → Outcome → State → Prop := va_Qi (fun (r : Int32) (_ : Unit) => R = r) (fun (u : Unit) (t : State) => va_P (dC, dI) vwCl [] t.heap ∧ va_K (dC, dI) vwCl [(cI, .int), (cJ, .long), (cZ, .boolean)] t ∧ va_D A []) A
set_option maxHeartbeats 4000000 in
set_option maxRecDepth 100000 in
theorem k_X6_fourTo (l : Launch) (dC : Nat → ClassId) (dI : Nat → Nat → Nat) (cI cJ cZ : ClassId) (sz : Nat) (a0 : Int32) (N : Nat) (R : Int32) (hf : f_X6_fourTo N a0 = some R) : Met l yX6_fourTo wsX6_fourTo (rm_X6_fourTo) (va_Pc [.int a0] (fun U => U.heap.size = sz ∧ va_P (dC, dI) vwCl [] U.heap ∧ va_K (dC, dI) vwCl [(cI, .int), (cJ, .long), (cZ, .boolean)] U ∧ va_D (fun _ => True) [])) (q_X6_fourTo dC dI cI cJ cZ  R (va_A [] sz)) 0 0 (va_A [] sz) := by
  refine Met.ofW (cc := cX6_fourTo) (maxL := 1) (ret := (some .int)) (by decide) rfl ?_
  intro p e s m args below meth c s₁ B hml hv
  obtain ⟨rfl, hsz, hP, hK, hD0⟩ := hv
  have hx := B.exec
  have hb := B.bytes
  have hr := B.returns
  have hts := atoms_spec (ws := wsX6_fourTo) B.pre
  have hown : s.vm.findClass RX6 = some m.cls := findClass_of_methodNamed B.named
  have hlocks := B.notSynchronized
  clear B
  subst hsz
  have hD := hD0.self (sz := s.heap.size)
  clear hD0
  generalize hAe : va_A [] s.heap.size = A at hD ⊢
  have hA : ∀ q : Nat, s.heap.size ≤ q → A q := fun q h => by rw [← hAe]; exact Or.inr h
  clear hAe
  have hS : va_S A s.heap s.heap [] := va_S.rf
  have hl := lv_entry ([.int a0]) (n := 1) (Nat.le_of_ble_eq_true rfl)
  rw [lg_entry_eq]
  generalize (lg_sl ([.int a0]) ++ List.replicate (1 - (lg_sl ([.int a0])).length) Slot.unset).toArray = ls at hl ⊢
  have hl : lv_has ls 1 [(0, .int a0)] := hl
  unfold f_X6_fourTo at hf
  refine lv_iconst (v := 1) hx hb dX6_fourTo_0 (by decide) ?_
  refine lv_iconst (v := 2) hx hb dX6_fourTo_1 (by decide) ?_
  refine lv_iload_n hx hb dX6_fourTo_2 rfl (lv_at hl 0 rfl) ?_
  refine lv_imul hx hb dX6_fourTo_3 ?_
  refine lv_ishl hx hb dX6_fourTo_4 ?_
  have he := Option.some.inj hf
  have hP9 := hP
  have hD9 := hD
  exact W.iret (v := ((1:Int32) <<< (((2:Int32) * a0) &&& 31))) hx hb hr (fun t eth hW => ⟨⟨((1:Int32) <<< (((2:Int32) * a0) &&& 31)), (), rfl, he.symm, by rw [eth]; exact hP9, va_K.moved hW.alike hK, hD9⟩, hS.F eth⟩) hS.2.2 dX6_fourTo_5
theorem hd_X6_write : yX6_write.cls = RX6 ∧ yX6_write.cls ≠ "java/lang/invoke/MethodHandle" ∧ yX6_write.cls ≠ "java/lang/invoke/VarHandle" ∧ (parseMethodDescriptor yX6_write.desc).map (fun d => d.parameters.length) = some 1 := by decide +kernel
abbrev rm_X6_write : Room := { frames := 1, cells := 0, slots := 0, locals := 25 }
abbrev q_X6_write (dC : Nat → ClassId) (dI : Nat → Nat → Nat) (cI cJ cZ : ClassId) (ht ht_drops ht_tires ht_now ht_told ht_text ht_pages ht_row ht_alike ht_table ht_keys ht_own ht_isKept ht_kept : Nat) (vt_clerks : Int32) (vt_acts : Int32) (vt_next : Int32) (vt_found : Int32) (vt_seed : Int64) (R : Int32 × Int32 × (Nat → Int32)) (A : Nat → Prop) : Array Value → State → Outcome → State → Prop := va_Qi (fun (r : Int32) (u : Int32 × (Nat → Int32)) => R.1 = r ∧ R.2 = u) (fun (u : Int32 × (Nat → Int32)) (t : State) => va_P (dC, dI) vwCl [(ht, .inr (5, [.int vt_clerks, .ref ht_drops, .ref ht_tires, .ref ht_now, .ref ht_told, .ref ht_text, .int u.1, .ref ht_pages, .int vt_acts, .int vt_next, .ref ht_row, .int vt_found, .ref ht_alike, .ref ht_table, .ref ht_keys, .ref ht_own, .long vt_seed, .ref ht_isKept, .ref ht_kept])), (ht_text, .inl (cI, 32, .inl u.2))] t.heap ∧ va_K (dC, dI) vwCl [(cI, .int), (cJ, .long), (cZ, .boolean)] t ∧ va_D A [(ht, .inr (5, [.int vt_clerks, .ref ht_drops, .ref ht_tires, .ref ht_now, .ref ht_told, .ref ht_text, .int u.1, .ref ht_pages, .int vt_acts, .int vt_next, .ref ht_row, .int vt_found, .ref ht_alike, .ref ht_table, .ref ht_keys, .ref ht_own, .long vt_seed, .ref ht_isKept, .ref ht_kept])), (ht_text, .inl (cI, 32, .inl u.2))]) A
set_option maxHeartbeats 4000000 in
set_option maxRecDepth 100000 in
theorem k_X6_write (l : Launch) (dC : Nat → ClassId) (dI : Nat → Nat → Nat) (cI cJ cZ : ClassId) (sz : Nat) (ht ht_drops ht_tires ht_now ht_told ht_text ht_pages ht_row ht_alike ht_table ht_keys ht_own ht_isKept ht_kept : Nat) (a1 : Int32) (vt_clerks : Int32) (vt_length : Int32) (vt_acts : Int32) (vt_next : Int32) (vt_found : Int32) (vt_seed : Int64) (vt_text : Nat → Int32) (N : Nat) (R : Int32 × Int32 × (Nat → Int32)) (hf : f_X6_write N a1 vt_length vt_text = some R) : Met l yX6_write wsX6_write (rm_X6_write) (va_Pc [.ref ht, .int a1] (fun U => U.heap.size = sz ∧ va_P (dC, dI) vwCl [(ht, .inr (5, [.int vt_clerks, .ref ht_drops, .ref ht_tires, .ref ht_now, .ref ht_told, .ref ht_text, .int vt_length, .ref ht_pages, .int vt_acts, .int vt_next, .ref ht_row, .int vt_found, .ref ht_alike, .ref ht_table, .ref ht_keys, .ref ht_own, .long vt_seed, .ref ht_isKept, .ref ht_kept])), (ht_text, .inl (cI, 32, .inl vt_text))] U.heap ∧ va_K (dC, dI) vwCl [(cI, .int), (cJ, .long), (cZ, .boolean)] U ∧ va_D (fun _ => True) [(ht, .inr (5, [.int vt_clerks, .ref ht_drops, .ref ht_tires, .ref ht_now, .ref ht_told, .ref ht_text, .int vt_length, .ref ht_pages, .int vt_acts, .int vt_next, .ref ht_row, .int vt_found, .ref ht_alike, .ref ht_table, .ref ht_keys, .ref ht_own, .long vt_seed, .ref ht_isKept, .ref ht_kept])), (ht_text, .inl (cI, 32, .inl vt_text))])) (q_X6_write dC dI cI cJ cZ ht ht_drops ht_tires ht_now ht_told ht_text ht_pages ht_row ht_alike ht_table ht_keys ht_own ht_isKept ht_kept vt_clerks vt_acts vt_next vt_found vt_seed R (va_A [(ht, .inr (5, [.int vt_clerks, .ref ht_drops, .ref ht_tires, .ref ht_now, .ref ht_told, .ref ht_text, .int vt_length, .ref ht_pages, .int vt_acts, .int vt_next, .ref ht_row, .int vt_found, .ref ht_alike, .ref ht_table, .ref ht_keys, .ref ht_own, .long vt_seed, .ref ht_isKept, .ref ht_kept])), (ht_text, .inl (cI, 32, .inl vt_text))] sz)) 0 0 (va_A [(ht, .inr (5, [.int vt_clerks, .ref ht_drops, .ref ht_tires, .ref ht_now, .ref ht_told, .ref ht_text, .int vt_length, .ref ht_pages, .int vt_acts, .int vt_next, .ref ht_row, .int vt_found, .ref ht_alike, .ref ht_table, .ref ht_keys, .ref ht_own, .long vt_seed, .ref ht_isKept, .ref ht_kept])), (ht_text, .inl (cI, 32, .inl vt_text))] sz) := by
  refine Met.ofW (cc := cX6_write) (maxL := 2) (ret := (some .int)) (by decide) rfl ?_
  intro p e s m args below meth c s₁ B hml hv
  obtain ⟨rfl, hsz, hP, hK, hD0⟩ := hv
  have hx := B.exec
  have hb := B.bytes
  have hr := B.returns
  have hts := atoms_spec (ws := wsX6_write) B.pre
  have hown : s.vm.findClass RX6 = some m.cls := findClass_of_methodNamed B.named
  have hlocks := B.notSynchronized
  clear B
  subst hsz
  have hw0 := hts (.constantLong RX6 50 (255)) (by decide +kernel)
  have hw1 := hts (.fieldLink RX6 56 "ShorthandCourtModel" "length" "I") (by decide +kernel)
  have hw2 := hts (.fieldLink RX6 22 "ShorthandCourtModel" "text" "[I") (by decide +kernel)
  have hinX6 : ∀ w ∈ u_ws RX6 TX6 19, w ∈ wsX6_write := by decide +kernel
  have hD := hD0.self (sz := s.heap.size)
  clear hD0
  generalize hAe : va_A [(ht, .inr (5, [.int vt_clerks, .ref ht_drops, .ref ht_tires, .ref ht_now, .ref ht_told, .ref ht_text, .int vt_length, .ref ht_pages, .int vt_acts, .int vt_next, .ref ht_row, .int vt_found, .ref ht_alike, .ref ht_table, .ref ht_keys, .ref ht_own, .long vt_seed, .ref ht_isKept, .ref ht_kept])), (ht_text, .inl (cI, 32, .inl vt_text))] s.heap.size = A at hD ⊢
  have hA : ∀ q : Nat, s.heap.size ≤ q → A q := fun q h => by rw [← hAe]; exact Or.inr h
  clear hAe
  have hS : va_S A s.heap s.heap [] := va_S.rf
  have hl := lv_entry ([.ref ht, .int a1]) (n := 2) (Nat.le_of_ble_eq_true rfl)
  rw [lg_entry_eq]
  generalize (lg_sl ([.ref ht, .int a1]) ++ List.replicate (2 - (lg_sl ([.ref ht, .int a1])).length) Slot.unset).toArray = ls at hl ⊢
  have hl : lv_has ls 2 [(0, .ref ht), (1, .int a1)] := hl
  unfold f_X6_write at hf
  refine lv_iload_n hx hb dX6_write_0 rfl (lv_at hl 1 rfl) ?_
  refine lv_i2l hx hb dX6_write_1 rfl ?_
  refine lv_lconst (v := 0) hx hb dX6_write_2 (by decide) ?_
  refine lv_ldc2 (v := 255) hx hb hown hw0 dX6_write_3 ?_
  obtain ⟨x1, hx1, hf⟩ := dg_bind hf
  have hPc : va_P (dC, dI) vwCl [] s.heap := hP.sub [] rfl
  have hDc : va_D A [] := hD.sub [] (by decide) rfl
  have hFc := va_free (wc := []) hD hS hA [] rfl
  refine va_calli (va_runS (As := [.long a1.toInt64, .long (0:Int64), .long (255:Int64)]) (rest := []) ⟨hx, hb, hml, hown, hts⟩ (k_X6_in l dC dI cI cJ cZ s.heap.size a1.toInt64 (0:Int64) (255:Int64) N x1 hx1) (va_cwS 3 hts gX6_write_X6_in rfl rfl rfl hd_X6_in ⟨Nat.le_of_ble_eq_true rfl, Nat.le_of_ble_eq_true rfl⟩) ⟨blind_pc, pre_pc hPc hK hDc⟩ rfl rfl hl.1 rfl (lv_room (Nat.le_of_ble_eq_true rfl)) dX6_write_6 ⟨Nat.zero_le _, Nat.zero_le _⟩) hS (fun q _ h => hFc q h) hFc (fun r u t H1 locs eth hvm hw hB hz1 hk1 hS => ?_)
  obtain ⟨hP1, hK1, hD1⟩ := hB
  rw [eth] at hP1
  subst hw
  obtain ⟨hP, hD⟩ := va_join (wr := [(ht, .inr (5, [.int vt_clerks, .ref ht_drops, .ref ht_tires, .ref ht_now, .ref ht_told, .ref ht_text, .int vt_length, .ref ht_pages, .int vt_acts, .int vt_next, .ref ht_row, .int vt_found, .ref ht_alike, .ref ht_table, .ref ht_keys, .ref ht_own, .long vt_seed, .ref ht_isKept, .ref ht_kept])), (ht_text, .inl (cI, 32, .inl vt_text))]) (w1 := []) hP hD [] [0, 1] rfl rfl (by decide) (by decide) hk1 hFc hP1 hD1
  clear hP1 hK1 hD1 hPc hDc hFc hk1 hz1 hvm eth
  generalize H1 = H at hP hS ⊢
  have hP : va_P (dC, dI) vwCl [(ht, .inr (5, [.int vt_clerks, .ref ht_drops, .ref ht_tires, .ref ht_now, .ref ht_told, .ref ht_text, .int vt_length, .ref ht_pages, .int vt_acts, .int vt_next, .ref ht_row, .int vt_found, .ref ht_alike, .ref ht_table, .ref ht_keys, .ref ht_own, .long vt_seed, .ref ht_isKept, .ref ht_kept])), (ht_text, .inl (cI, 32, .inl vt_text))] H := hP
  have hD : va_D A [(ht, .inr (5, [.int vt_clerks, .ref ht_drops, .ref ht_tires, .ref ht_now, .ref ht_told, .ref ht_text, .int vt_length, .ref ht_pages, .int vt_acts, .int vt_next, .ref ht_row, .int vt_found, .ref ht_alike, .ref ht_table, .ref ht_keys, .ref ht_own, .long vt_seed, .ref ht_isKept, .ref ht_kept])), (ht_text, .inl (cI, 32, .inl vt_text))] := hD
  refine lv_if_ne (tgt := 15) hx hb dX6_write_9 (by decide) (fun c2 => ?_) (fun c2 => ?_)
  · replace hf := dg_f c2 hf
    refine lv_aload_n hx hb dX6_write_15 rfl (lv_at hl 0 rfl) ?_
    refine va_get (D := (dC, dI)) (ci := 5) (v := .int vt_length) (C := RX6) (T := TX6) (N := 19) hx hb hts hinX6 hown hK hP 0 rfl rfl 6 (by decide) hw1 (fun _ h9 => h9) rfl dX6_write_16 ?_
    refine lv_bipush (v := 32) hx hb dX6_write_19 (by decide) ?_
    refine lv_icmp_ne (tgt := 27) hx hb dX6_write_21 (by decide) (fun c3 => ?_) (fun c3 => ?_)
    · replace hf := dg_f c3 hf
      refine lv_aload_n hx hb dX6_write_27 rfl (lv_at hl 0 rfl) ?_
      refine va_get (D := (dC, dI)) (ci := 5) (v := .ref ht_text) (C := RX6) (T := TX6) (N := 19) hx hb hts hinX6 hown hK hP 0 rfl rfl 5 (by decide) hw2 (fun _ h9 => h9) rfl dX6_write_28 ?_
      refine lv_aload_n hx hb dX6_write_31 rfl (lv_at hl 0 rfl) ?_
      refine va_get (D := (dC, dI)) (ci := 5) (v := .int vt_length) (C := RX6) (T := TX6) (N := 19) hx hb hts hinX6 hown hK hP 0 rfl rfl 6 (by decide) hw1 (fun _ h9 => h9) rfl dX6_write_32 ?_
      refine lv_iload_n hx hb dX6_write_35 rfl (lv_at hl 1 rfl) ?_
      obtain ⟨hi4, hf⟩ := dg_ix hf
      refine va_iast hx hb hK hP hD hS 1 0 rfl rfl hi4 dX6_write_36 (fun H locs hP hD hS => ?_)
      have hP : va_P (dC, dI) vwCl [(ht, .inr (5, [.int vt_clerks, .ref ht_drops, .ref ht_tires, .ref ht_now, .ref ht_told, .ref ht_text, .int vt_length, .ref ht_pages, .int vt_acts, .int vt_next, .ref ht_row, .int vt_found, .ref ht_alike, .ref ht_table, .ref ht_keys, .ref ht_own, .long vt_seed, .ref ht_isKept, .ref ht_kept])), (ht_text, .inl (cI, 32, .inl (upd vt_text vt_length.toNatClampNeg a1)))] H := hP
      have hD : va_D A [(ht, .inr (5, [.int vt_clerks, .ref ht_drops, .ref ht_tires, .ref ht_now, .ref ht_told, .ref ht_text, .int vt_length, .ref ht_pages, .int vt_acts, .int vt_next, .ref ht_row, .int vt_found, .ref ht_alike, .ref ht_table, .ref ht_keys, .ref ht_own, .long vt_seed, .ref ht_isKept, .ref ht_kept])), (ht_text, .inl (cI, 32, .inl (upd vt_text vt_length.toNatClampNeg a1)))] := hD
      refine lv_aload_n hx hb dX6_write_37 rfl (lv_at hl 0 rfl) ?_
      refine lv_dup hx hb dX6_write_38 rfl ?_
      refine va_get (D := (dC, dI)) (ci := 5) (v := .int vt_length) (C := RX6) (T := TX6) (N := 19) hx hb hts hinX6 hown hK hP 0 rfl rfl 6 (by decide) hw1 (fun _ h9 => h9) rfl dX6_write_39 ?_
      refine lv_iconst (v := 1) hx hb dX6_write_42 (by decide) ?_
      refine lv_iadd hx hb dX6_write_43 ?_
      refine va_put (D := (dC, dI)) (ci := 5) (v := .int (vt_length + (1:Int32))) (ty := .int) (C := RX6) (T := TX6) (N := 19) hx hb hts hinX6 tyX6 tyX6_ok nmX6 hown hK hP hD hS 0 rfl rfl 6 (by decide) hw1 (fun _ h9 => h9) rfl (by decide +kernel) rfl rfl (Nat.le_of_ble_eq_true rfl) dX6_write_44 (fun H locs hP hD hS => ?_)
      have hP : va_P (dC, dI) vwCl [(ht, .inr (5, [.int vt_clerks, .ref ht_drops, .ref ht_tires, .ref ht_now, .ref ht_told, .ref ht_text, .int (vt_length + (1:Int32)), .ref ht_pages, .int vt_acts, .int vt_next, .ref ht_row, .int vt_found, .ref ht_alike, .ref ht_table, .ref ht_keys, .ref ht_own, .long vt_seed, .ref ht_isKept, .ref ht_kept])), (ht_text, .inl (cI, 32, .inl (upd vt_text vt_length.toNatClampNeg a1)))] H := hP
      have hD : va_D A [(ht, .inr (5, [.int vt_clerks, .ref ht_drops, .ref ht_tires, .ref ht_now, .ref ht_told, .ref ht_text, .int (vt_length + (1:Int32)), .ref ht_pages, .int vt_acts, .int vt_next, .ref ht_row, .int vt_found, .ref ht_alike, .ref ht_table, .ref ht_keys, .ref ht_own, .long vt_seed, .ref ht_isKept, .ref ht_kept])), (ht_text, .inl (cI, 32, .inl (upd vt_text vt_length.toNatClampNeg a1)))] := hD
      refine lv_aload_n hx hb dX6_write_47 rfl (lv_at hl 0 rfl) ?_
      refine va_get (D := (dC, dI)) (ci := 5) (v := .int (vt_length + (1:Int32))) (C := RX6) (T := TX6) (N := 19) hx hb hts hinX6 hown hK hP 0 rfl rfl 6 (by decide) hw1 (fun _ h9 => h9) rfl dX6_write_48 ?_
      have he := Option.some.inj hf
      have hP9 := hP
      have hD9 := hD
      exact W.iret (v := (vt_length + (1:Int32))) hx hb hr (fun t eth hW => ⟨⟨(vt_length + (1:Int32)), ((vt_length + (1:Int32)), (upd vt_text vt_length.toNatClampNeg a1)), rfl, ⟨(congrArg Prod.fst he).symm, (congrArg Prod.snd he).symm⟩, by rw [eth]; exact hP9, va_K.moved hW.alike hK, hD9⟩, hS.F eth⟩) hS.2.2 dX6_write_51
    · replace hf := dg_t c3 hf
      refine lv_bipush (v := -4) hx hb dX6_write_24 (by decide) ?_
      have he := Option.some.inj hf
      have hP9 := hP
      have hD9 := hD
      exact W.iret (v := (-4:Int32)) hx hb hr (fun t eth hW => ⟨⟨(-4:Int32), (vt_length, vt_text), rfl, ⟨(congrArg Prod.fst he).symm, (congrArg Prod.snd he).symm⟩, by rw [eth]; exact hP9, va_K.moved hW.alike hK, hD9⟩, hS.F eth⟩) hS.2.2 dX6_write_26
  · replace hf := dg_t c2 hf
    refine lv_bipush (v := -2) hx hb dX6_write_12 (by decide) ?_
    have he := Option.some.inj hf
    have hP9 := hP
    have hD9 := hD
    exact W.iret (v := (-2:Int32)) hx hb hr (fun t eth hW => ⟨⟨(-2:Int32), (vt_length, vt_text), rfl, ⟨(congrArg Prod.fst he).symm, (congrArg Prod.snd he).symm⟩, by rw [eth]; exact hP9, va_K.moved hW.alike hK, hD9⟩, hS.F eth⟩) hS.2.2 dX6_write_14
theorem hd_X6_wipe : yX6_wipe.cls = RX6 ∧ yX6_wipe.cls ≠ "java/lang/invoke/MethodHandle" ∧ yX6_wipe.cls ≠ "java/lang/invoke/VarHandle" ∧ (parseMethodDescriptor yX6_wipe.desc).map (fun d => d.parameters.length) = some 0 := by decide +kernel
abbrev rm_X6_wipe : Room := { frames := 0, cells := 0, slots := 0, locals := 0 }
abbrev q_X6_wipe (dC : Nat → ClassId) (dI : Nat → Nat → Nat) (cI cJ cZ : ClassId) (ht ht_drops ht_tires ht_now ht_told ht_text ht_pages ht_row ht_alike ht_table ht_keys ht_own ht_isKept ht_kept : Nat) (vt_clerks : Int32) (vt_acts : Int32) (vt_next : Int32) (vt_found : Int32) (vt_seed : Int64) (R : Int32 × Int32) (A : Nat → Prop) : Array Value → State → Outcome → State → Prop := va_Qi (fun (r : Int32) (u : Int32) => R.1 = r ∧ R.2 = u) (fun (u : Int32) (t : State) => va_P (dC, dI) vwCl [(ht, .inr (5, [.int vt_clerks, .ref ht_drops, .ref ht_tires, .ref ht_now, .ref ht_told, .ref ht_text, .int u, .ref ht_pages, .int vt_acts, .int vt_next, .ref ht_row, .int vt_found, .ref ht_alike, .ref ht_table, .ref ht_keys, .ref ht_own, .long vt_seed, .ref ht_isKept, .ref ht_kept]))] t.heap ∧ va_K (dC, dI) vwCl [(cI, .int), (cJ, .long), (cZ, .boolean)] t ∧ va_D A [(ht, .inr (5, [.int vt_clerks, .ref ht_drops, .ref ht_tires, .ref ht_now, .ref ht_told, .ref ht_text, .int u, .ref ht_pages, .int vt_acts, .int vt_next, .ref ht_row, .int vt_found, .ref ht_alike, .ref ht_table, .ref ht_keys, .ref ht_own, .long vt_seed, .ref ht_isKept, .ref ht_kept]))]) A
set_option maxHeartbeats 4000000 in
set_option maxRecDepth 100000 in
theorem k_X6_wipe (l : Launch) (dC : Nat → ClassId) (dI : Nat → Nat → Nat) (cI cJ cZ : ClassId) (sz : Nat) (ht ht_drops ht_tires ht_now ht_told ht_text ht_pages ht_row ht_alike ht_table ht_keys ht_own ht_isKept ht_kept : Nat) (vt_clerks : Int32) (vt_length : Int32) (vt_acts : Int32) (vt_next : Int32) (vt_found : Int32) (vt_seed : Int64) (N : Nat) (R : Int32 × Int32) (hf : f_X6_wipe N vt_length = some R) : Met l yX6_wipe wsX6_wipe (rm_X6_wipe) (va_Pc [.ref ht] (fun U => U.heap.size = sz ∧ va_P (dC, dI) vwCl [(ht, .inr (5, [.int vt_clerks, .ref ht_drops, .ref ht_tires, .ref ht_now, .ref ht_told, .ref ht_text, .int vt_length, .ref ht_pages, .int vt_acts, .int vt_next, .ref ht_row, .int vt_found, .ref ht_alike, .ref ht_table, .ref ht_keys, .ref ht_own, .long vt_seed, .ref ht_isKept, .ref ht_kept]))] U.heap ∧ va_K (dC, dI) vwCl [(cI, .int), (cJ, .long), (cZ, .boolean)] U ∧ va_D (fun _ => True) [(ht, .inr (5, [.int vt_clerks, .ref ht_drops, .ref ht_tires, .ref ht_now, .ref ht_told, .ref ht_text, .int vt_length, .ref ht_pages, .int vt_acts, .int vt_next, .ref ht_row, .int vt_found, .ref ht_alike, .ref ht_table, .ref ht_keys, .ref ht_own, .long vt_seed, .ref ht_isKept, .ref ht_kept]))])) (q_X6_wipe dC dI cI cJ cZ ht ht_drops ht_tires ht_now ht_told ht_text ht_pages ht_row ht_alike ht_table ht_keys ht_own ht_isKept ht_kept vt_clerks vt_acts vt_next vt_found vt_seed R (va_A [(ht, .inr (5, [.int vt_clerks, .ref ht_drops, .ref ht_tires, .ref ht_now, .ref ht_told, .ref ht_text, .int vt_length, .ref ht_pages, .int vt_acts, .int vt_next, .ref ht_row, .int vt_found, .ref ht_alike, .ref ht_table, .ref ht_keys, .ref ht_own, .long vt_seed, .ref ht_isKept, .ref ht_kept]))] sz)) 0 0 (va_A [(ht, .inr (5, [.int vt_clerks, .ref ht_drops, .ref ht_tires, .ref ht_now, .ref ht_told, .ref ht_text, .int vt_length, .ref ht_pages, .int vt_acts, .int vt_next, .ref ht_row, .int vt_found, .ref ht_alike, .ref ht_table, .ref ht_keys, .ref ht_own, .long vt_seed, .ref ht_isKept, .ref ht_kept]))] sz) := by
  refine Met.ofW (cc := cX6_wipe) (maxL := 2) (ret := (some .int)) (by decide) rfl ?_
  intro p e s m args below meth c s₁ B hml hv
  obtain ⟨rfl, hsz, hP, hK, hD0⟩ := hv
  have hx := B.exec
  have hb := B.bytes
  have hr := B.returns
  have hts := atoms_spec (ws := wsX6_wipe) B.pre
  have hown : s.vm.findClass RX6 = some m.cls := findClass_of_methodNamed B.named
  have hlocks := B.notSynchronized
  clear B
  subst hsz
  have hw0 := hts (.fieldLink RX6 56 "ShorthandCourtModel" "length" "I") (by decide +kernel)
  have hinX6 : ∀ w ∈ u_ws RX6 TX6 19, w ∈ wsX6_wipe := by decide +kernel
  have hD := hD0.self (sz := s.heap.size)
  clear hD0
  generalize hAe : va_A [(ht, .inr (5, [.int vt_clerks, .ref ht_drops, .ref ht_tires, .ref ht_now, .ref ht_told, .ref ht_text, .int vt_length, .ref ht_pages, .int vt_acts, .int vt_next, .ref ht_row, .int vt_found, .ref ht_alike, .ref ht_table, .ref ht_keys, .ref ht_own, .long vt_seed, .ref ht_isKept, .ref ht_kept]))] s.heap.size = A at hD ⊢
  have hA : ∀ q : Nat, s.heap.size ≤ q → A q := fun q h => by rw [← hAe]; exact Or.inr h
  clear hAe
  have hS : va_S A s.heap s.heap [] := va_S.rf
  have hl := lv_entry ([.ref ht]) (n := 2) (Nat.le_of_ble_eq_true rfl)
  rw [lg_entry_eq]
  generalize (lg_sl ([.ref ht]) ++ List.replicate (2 - (lg_sl ([.ref ht])).length) Slot.unset).toArray = ls at hl ⊢
  have hl : lv_has ls 2 [(0, .ref ht)] := hl
  unfold f_X6_wipe at hf
  refine lv_aload_n hx hb dX6_wipe_0 rfl (lv_at hl 0 rfl) ?_
  refine va_get (D := (dC, dI)) (ci := 5) (v := .int vt_length) (C := RX6) (T := TX6) (N := 19) hx hb hts hinX6 hown hK hP 0 rfl rfl 6 (by decide) hw0 (fun _ h9 => h9) rfl dX6_wipe_1 ?_
  refine lv_istore_n (lv' := [(1, .int vt_length), (0, .ref ht)]) hx hb dX6_wipe_4 rfl hl (by decide) rfl (fun ls hl => ?_)
  refine lv_aload_n hx hb dX6_wipe_5 rfl (lv_at hl 1 rfl) ?_
  refine lv_iconst (v := 0) hx hb dX6_wipe_6 (by decide) ?_
  refine va_put (D := (dC, dI)) (ci := 5) (v := .int (0:Int32)) (ty := .int) (C := RX6) (T := TX6) (N := 19) hx hb hts hinX6 tyX6 tyX6_ok nmX6 hown hK hP hD hS 0 rfl rfl 6 (by decide) hw0 (fun _ h9 => h9) rfl (by decide +kernel) rfl rfl (Nat.le_of_ble_eq_true rfl) dX6_wipe_7 (fun H locs hP hD hS => ?_)
  have hP : va_P (dC, dI) vwCl [(ht, .inr (5, [.int vt_clerks, .ref ht_drops, .ref ht_tires, .ref ht_now, .ref ht_told, .ref ht_text, .int (0:Int32), .ref ht_pages, .int vt_acts, .int vt_next, .ref ht_row, .int vt_found, .ref ht_alike, .ref ht_table, .ref ht_keys, .ref ht_own, .long vt_seed, .ref ht_isKept, .ref ht_kept]))] H := hP
  have hD : va_D A [(ht, .inr (5, [.int vt_clerks, .ref ht_drops, .ref ht_tires, .ref ht_now, .ref ht_told, .ref ht_text, .int (0:Int32), .ref ht_pages, .int vt_acts, .int vt_next, .ref ht_row, .int vt_found, .ref ht_alike, .ref ht_table, .ref ht_keys, .ref ht_own, .long vt_seed, .ref ht_isKept, .ref ht_kept]))] := hD
  refine lv_iload_n hx hb dX6_wipe_10 rfl (lv_at hl 0 rfl) ?_
  have he := Option.some.inj hf
  have hP9 := hP
  have hD9 := hD
  exact W.iret (v := vt_length) hx hb hr (fun t eth hW => ⟨⟨vt_length, (0:Int32), rfl, ⟨(congrArg Prod.fst he).symm, (congrArg Prod.snd he).symm⟩, by rw [eth]; exact hP9, va_K.moved hW.alike hK, hD9⟩, hS.F eth⟩) hS.2.2 dX6_wipe_11
theorem hd_X6_isWord : yX6_isWord.cls ≠ "java/lang/invoke/MethodHandle" ∧ yX6_isWord.cls ≠ "java/lang/invoke/VarHandle" ∧ (parseMethodDescriptor yX6_isWord.desc).map (fun d => d.parameters.length) = some 1 := by decide +kernel
abbrev rm_X6_isWord : Room := { frames := 1, cells := 0, slots := 0, locals := 25 }
abbrev q_X6_isWord (dC : Nat → ClassId) (dI : Nat → Nat → Nat) (cI cJ cZ : ClassId) (R : Int32) (A : Nat → Prop) : Array Value → State → Outcome → State → Prop := va_Qi (fun (r : Int32) (_ : Unit) => R = r) (fun (u : Unit) (t : State) => va_P (dC, dI) vwCl [] t.heap ∧ va_K (dC, dI) vwCl [(cI, .int), (cJ, .long), (cZ, .boolean)] t ∧ va_D A []) A
set_option maxHeartbeats 4000000 in
set_option maxRecDepth 100000 in
theorem k_X6_isWord (l : Launch) (dC : Nat → ClassId) (dI : Nat → Nat → Nat) (cI cJ cZ : ClassId) (sz : Nat) (a0 : Int32) (N : Nat) (R : Int32) (hf : f_X6_isWord N a0 = some R) : Met l yX6_isWord wsX6_isWord (rm_X6_isWord) (va_Pc [.int a0] (fun U => U.heap.size = sz ∧ va_P (dC, dI) vwCl [] U.heap ∧ va_K (dC, dI) vwCl [(cI, .int), (cJ, .long), (cZ, .boolean)] U ∧ va_D (fun _ => True) [])) (q_X6_isWord dC dI cI cJ cZ  R (va_A [] sz)) 0 0 (va_A [] sz) := by
  refine Met.ofW (cc := cX6_isWord) (maxL := 1) (ret := (some .boolean)) (by decide) rfl ?_
  intro p e s m args below meth c s₁ B hml hv
  obtain ⟨rfl, hsz, hP, hK, hD0⟩ := hv
  have hx := B.exec
  have hb := B.bytes
  have hr := B.returns
  have hts := atoms_spec (ws := wsX6_isWord) B.pre
  have hown : s.vm.findClass RX6 = some m.cls := findClass_of_methodNamed B.named
  have hlocks := B.notSynchronized
  clear B
  subst hsz
  have hw0 := hts (.constantLong RX6 60 (97)) (by decide +kernel)
  have hw1 := hts (.constantLong RX6 62 (100)) (by decide +kernel)
  have hD := hD0.self (sz := s.heap.size)
  clear hD0
  generalize hAe : va_A [] s.heap.size = A at hD ⊢
  have hA : ∀ q : Nat, s.heap.size ≤ q → A q := fun q h => by rw [← hAe]; exact Or.inr h
  clear hAe
  have hS : va_S A s.heap s.heap [] := va_S.rf
  have hl := lv_entry ([.int a0]) (n := 1) (Nat.le_of_ble_eq_true rfl)
  rw [lg_entry_eq]
  generalize (lg_sl ([.int a0]) ++ List.replicate (1 - (lg_sl ([.int a0])).length) Slot.unset).toArray = ls at hl ⊢
  have hl : lv_has ls 1 [(0, .int a0)] := hl
  unfold f_X6_isWord at hf
  refine lv_iload_n hx hb dX6_isWord_0 rfl (lv_at hl 0 rfl) ?_
  refine lv_i2l hx hb dX6_isWord_1 rfl ?_
  refine lv_ldc2 (v := 97) hx hb hown hw0 dX6_isWord_2 ?_
  refine lv_ldc2 (v := 100) hx hb hown hw1 dX6_isWord_5 ?_
  obtain ⟨x1, hx1, hf⟩ := dg_bind hf
  have hPc : va_P (dC, dI) vwCl [] s.heap := hP.sub [] rfl
  have hDc : va_D A [] := hD.sub [] (by decide) rfl
  have hFc := va_free (wc := []) hD hS hA [] rfl
  refine va_calli (va_runS (As := [.long a0.toInt64, .long (97:Int64), .long (100:Int64)]) (rest := []) ⟨hx, hb, hml, hown, hts⟩ (k_X6_in l dC dI cI cJ cZ s.heap.size a0.toInt64 (97:Int64) (100:Int64) N x1 hx1) (va_cwS 3 hts gX6_isWord_X6_in rfl rfl rfl hd_X6_in ⟨Nat.le_of_ble_eq_true rfl, Nat.le_of_ble_eq_true rfl⟩) ⟨blind_pc, pre_pc hPc hK hDc⟩ rfl rfl hl.1 rfl (lv_room (Nat.le_of_ble_eq_true rfl)) dX6_isWord_8 ⟨Nat.zero_le _, Nat.zero_le _⟩) hS (fun q _ h => hFc q h) hFc (fun r u t H1 locs eth hvm hw hB hz1 hk1 hS => ?_)
  obtain ⟨hP1, hK1, hD1⟩ := hB
  rw [eth] at hP1
  subst hw
  obtain ⟨hP, hD⟩ := va_join (wr := []) (w1 := []) hP hD [] [] rfl rfl (by decide) (by decide) hk1 hFc hP1 hD1
  clear hP1 hK1 hD1 hPc hDc hFc hk1 hz1 hvm eth
  generalize H1 = H at hP hS ⊢
  have hP : va_P (dC, dI) vwCl [] H := hP
  have hD : va_D A [] := hD
  obtain ⟨hz2, hf⟩ := dg_z hf
  have he := Option.some.inj hf
  have hP9 := hP
  have hD9 := hD
  exact W.zret (v := x1) (ty := .boolean) hx hb hr hz2 (fun t eth hW => ⟨⟨x1, (), rfl, he.symm, by rw [eth]; exact hP9, va_K.moved hW.alike hK, hD9⟩, hS.F eth⟩) hS.2.2 dX6_isWord_11
theorem hd_X6_mayBe : yX6_mayBe.cls = RX6 ∧ yX6_mayBe.cls ≠ "java/lang/invoke/MethodHandle" ∧ yX6_mayBe.cls ≠ "java/lang/invoke/VarHandle" ∧ (parseMethodDescriptor yX6_mayBe.desc).map (fun d => d.parameters.length) = some 1 := by decide +kernel
abbrev rm_X6_mayBe : Room := { frames := 2, cells := 0, slots := 0, locals := 45 }
abbrev q_X6_mayBe (dC : Nat → ClassId) (dI : Nat → Nat → Nat) (cI cJ cZ : ClassId) (ht ht_drops ht_tires ht_now ht_told ht_text ht_pages ht_row ht_alike ht_table ht_keys ht_own ht_isKept ht_kept : Nat) (vt_clerks : Int32) (vt_length : Int32) (vt_acts : Int32) (vt_next : Int32) (vt_found : Int32) (vt_seed : Int64) (vt_text : Nat → Int32) (R : Int32) (A : Nat → Prop) : Array Value → State → Outcome → State → Prop := va_Qi (fun (r : Int32) (_ : Unit) => R = r) (fun (u : Unit) (t : State) => va_P (dC, dI) vwCl [(ht, .inr (5, [.int vt_clerks, .ref ht_drops, .ref ht_tires, .ref ht_now, .ref ht_told, .ref ht_text, .int vt_length, .ref ht_pages, .int vt_acts, .int vt_next, .ref ht_row, .int vt_found, .ref ht_alike, .ref ht_table, .ref ht_keys, .ref ht_own, .long vt_seed, .ref ht_isKept, .ref ht_kept])), (ht_text, .inl (cI, 32, .inl vt_text))] t.heap ∧ va_K (dC, dI) vwCl [(cI, .int), (cJ, .long), (cZ, .boolean)] t ∧ va_D A [(ht, .inr (5, [.int vt_clerks, .ref ht_drops, .ref ht_tires, .ref ht_now, .ref ht_told, .ref ht_text, .int vt_length, .ref ht_pages, .int vt_acts, .int vt_next, .ref ht_row, .int vt_found, .ref ht_alike, .ref ht_table, .ref ht_keys, .ref ht_own, .long vt_seed, .ref ht_isKept, .ref ht_kept])), (ht_text, .inl (cI, 32, .inl vt_text))]) A
set_option maxHeartbeats 4000000 in
set_option maxRecDepth 100000 in
theorem k_X6_mayBe (l : Launch) (dC : Nat → ClassId) (dI : Nat → Nat → Nat) (cI cJ cZ : ClassId) (sz : Nat) (ht ht_drops ht_tires ht_now ht_told ht_text ht_pages ht_row ht_alike ht_table ht_keys ht_own ht_isKept ht_kept : Nat) (a1 : Int32) (vt_clerks : Int32) (vt_length : Int32) (vt_acts : Int32) (vt_next : Int32) (vt_found : Int32) (vt_seed : Int64) (vt_text : Nat → Int32) (N : Nat) (R : Int32) (hf : f_X6_mayBe N a1 vt_text = some R) : Met l yX6_mayBe wsX6_mayBe (rm_X6_mayBe) (va_Pc [.ref ht, .int a1] (fun U => U.heap.size = sz ∧ va_P (dC, dI) vwCl [(ht, .inr (5, [.int vt_clerks, .ref ht_drops, .ref ht_tires, .ref ht_now, .ref ht_told, .ref ht_text, .int vt_length, .ref ht_pages, .int vt_acts, .int vt_next, .ref ht_row, .int vt_found, .ref ht_alike, .ref ht_table, .ref ht_keys, .ref ht_own, .long vt_seed, .ref ht_isKept, .ref ht_kept])), (ht_text, .inl (cI, 32, .inl vt_text))] U.heap ∧ va_K (dC, dI) vwCl [(cI, .int), (cJ, .long), (cZ, .boolean)] U ∧ va_D (fun _ => True) [(ht, .inr (5, [.int vt_clerks, .ref ht_drops, .ref ht_tires, .ref ht_now, .ref ht_told, .ref ht_text, .int vt_length, .ref ht_pages, .int vt_acts, .int vt_next, .ref ht_row, .int vt_found, .ref ht_alike, .ref ht_table, .ref ht_keys, .ref ht_own, .long vt_seed, .ref ht_isKept, .ref ht_kept])), (ht_text, .inl (cI, 32, .inl vt_text))])) (q_X6_mayBe dC dI cI cJ cZ ht ht_drops ht_tires ht_now ht_told ht_text ht_pages ht_row ht_alike ht_table ht_keys ht_own ht_isKept ht_kept vt_clerks vt_length vt_acts vt_next vt_found vt_seed vt_text R (va_A [(ht, .inr (5, [.int vt_clerks, .ref ht_drops, .ref ht_tires, .ref ht_now, .ref ht_told, .ref ht_text, .int vt_length, .ref ht_pages, .int vt_acts, .int vt_next, .ref ht_row, .int vt_found, .ref ht_alike, .ref ht_table, .ref ht_keys, .ref ht_own, .long vt_seed, .ref ht_isKept, .ref ht_kept])), (ht_text, .inl (cI, 32, .inl vt_text))] sz)) 0 0 (va_A [(ht, .inr (5, [.int vt_clerks, .ref ht_drops, .ref ht_tires, .ref ht_now, .ref ht_told, .ref ht_text, .int vt_length, .ref ht_pages, .int vt_acts, .int vt_next, .ref ht_row, .int vt_found, .ref ht_alike, .ref ht_table, .ref ht_keys, .ref ht_own, .long vt_seed, .ref ht_isKept, .ref ht_kept])), (ht_text, .inl (cI, 32, .inl vt_text))] sz) := by
  refine Met.ofW (cc := cX6_mayBe) (maxL := 3) (ret := (some .boolean)) (by decide) rfl ?_
  intro p e s m args below meth c s₁ B hml hv
  obtain ⟨rfl, hsz, hP, hK, hD0⟩ := hv
  have hx := B.exec
  have hb := B.bytes
  have hr := B.returns
  have hts := atoms_spec (ws := wsX6_mayBe) B.pre
  have hown : s.vm.findClass RX6 = some m.cls := findClass_of_methodNamed B.named
  have hlocks := B.notSynchronized
  clear B
  subst hsz
  have hw0 := hts (.fieldLink RX6 22 "ShorthandCourtModel" "text" "[I") (by decide +kernel)
  have hw1 := hts (.constantLong RX6 68 (48)) (by decide +kernel)
  have hw2 := hts (.constantLong RX6 70 (57)) (by decide +kernel)
  have hinX6 : ∀ w ∈ u_ws RX6 TX6 19, w ∈ wsX6_mayBe := by decide +kernel
  have hD := hD0.self (sz := s.heap.size)
  clear hD0
  generalize hAe : va_A [(ht, .inr (5, [.int vt_clerks, .ref ht_drops, .ref ht_tires, .ref ht_now, .ref ht_told, .ref ht_text, .int vt_length, .ref ht_pages, .int vt_acts, .int vt_next, .ref ht_row, .int vt_found, .ref ht_alike, .ref ht_table, .ref ht_keys, .ref ht_own, .long vt_seed, .ref ht_isKept, .ref ht_kept])), (ht_text, .inl (cI, 32, .inl vt_text))] s.heap.size = A at hD ⊢
  have hA : ∀ q : Nat, s.heap.size ≤ q → A q := fun q h => by rw [← hAe]; exact Or.inr h
  clear hAe
  have hS : va_S A s.heap s.heap [] := va_S.rf
  have hl := lv_entry ([.ref ht, .int a1]) (n := 3) (Nat.le_of_ble_eq_true rfl)
  rw [lg_entry_eq]
  generalize (lg_sl ([.ref ht, .int a1]) ++ List.replicate (3 - (lg_sl ([.ref ht, .int a1])).length) Slot.unset).toArray = ls at hl ⊢
  have hl : lv_has ls 3 [(0, .ref ht), (1, .int a1)] := hl
  unfold f_X6_mayBe at hf
  refine lv_aload_n hx hb dX6_mayBe_0 rfl (lv_at hl 0 rfl) ?_
  refine va_get (D := (dC, dI)) (ci := 5) (v := .ref ht_text) (C := RX6) (T := TX6) (N := 19) hx hb hts hinX6 hown hK hP 0 rfl rfl 5 (by decide) hw0 (fun _ h9 => h9) rfl dX6_mayBe_1 ?_
  refine lv_iload_n hx hb dX6_mayBe_4 rfl (lv_at hl 1 rfl) ?_
  obtain ⟨hi1, hf⟩ := dg_ix hf
  refine va_iald hx hb hK hP 1 0 rfl rfl hi1 dX6_mayBe_5 ?_
  refine lv_istore_n (lv' := [(2, .int (vt_text a1.toNatClampNeg)), (0, .ref ht), (1, .int a1)]) hx hb dX6_mayBe_6 rfl hl (by decide) rfl (fun ls hl => ?_)
  refine lv_iload_n hx hb dX6_mayBe_7 rfl (lv_at hl 2 rfl) ?_
  refine lv_if_ne (tgt := 23) hx hb dX6_mayBe_8 (by decide) (fun c2 => ?_) (fun c2 => ?_)
  · replace hf := dg_f c2 hf
    refine lv_iload_n hx hb dX6_mayBe_23 rfl (lv_at hl 2 rfl) ?_
    refine lv_bipush (v := 24) hx hb dX6_mayBe_24 (by decide) ?_
    refine lv_icmp_le (tgt := 31) hx hb dX6_mayBe_26 (by decide) (fun c3 => ?_) (fun c3 => ?_)
    · replace hf := dg_t c3 hf
      refine lv_iload_n hx hb dX6_mayBe_31 rfl (lv_at hl 2 rfl) ?_
      refine lv_iconst (v := 1) hx hb dX6_mayBe_32 (by decide) ?_
      refine lv_isub hx hb dX6_mayBe_33 ?_
      refine lv_bipush (v := 6) hx hb dX6_mayBe_34 (by decide) ?_
      refine lv_irem hx hb dX6_mayBe_36 (by decide) ?_
      by_cases c4 : ((a1 - (1:Int32)) - (a1 - (1:Int32)) / (6:Int32) * (6:Int32)) = (0:Int32)
      · replace hf := dg_t c4 hf
        refine lv_tableIn (off := 35) (tgt := 72) hx hb dX6_mayBe_37 (by rw [c4]; decide) (by rw [c4]; decide) (by rw [c4]; decide) (by decide) ?_
        refine lv_iload_n hx hb dX6_mayBe_72 rfl (lv_at hl 0 rfl) ?_
        refine lv_bipush (v := 75) hx hb dX6_mayBe_73 (by decide) ?_
        refine lv_icmp_ne (tgt := 82) hx hb dX6_mayBe_75 (by decide) (fun c5 => ?_) (fun c5 => ?_)
        · replace hf := dg_f c5 hf
          refine lv_iconst (v := 0) hx hb dX6_mayBe_82 (by decide) ?_
          have he := Option.some.inj hf
          have hP9 := hP
          have hD9 := hD
          exact W.zret (v := (0:Int32)) (ty := .boolean) hx hb hr (by decide) (fun t eth hW => ⟨⟨(0:Int32), (), rfl, he.symm, by rw [eth]; exact hP9, va_K.moved hW.alike hK, hD9⟩, hS.F eth⟩) hS.2.2 dX6_mayBe_83
        · replace hf := dg_t c5 hf
          refine lv_iconst (v := 1) hx hb dX6_mayBe_78 (by decide) ?_
          refine lv_goto (tgt := 83) hx hb dX6_mayBe_79 (by decide) ?_
          have he := Option.some.inj hf
          have hP9 := hP
          have hD9 := hD
          exact W.zret (v := (1:Int32)) (ty := .boolean) hx hb hr (by decide) (fun t eth hW => ⟨⟨(1:Int32), (), rfl, he.symm, by rw [eth]; exact hP9, va_K.moved hW.alike hK, hD9⟩, hS.F eth⟩) hS.2.2 dX6_mayBe_83
      · replace hf := dg_f c4 hf
        by_cases c6 : ((a1 - (1:Int32)) - (a1 - (1:Int32)) / (6:Int32) * (6:Int32)) = (1:Int32)
        · replace hf := dg_t c6 hf
          refine lv_tableIn (off := 47) (tgt := 84) hx hb dX6_mayBe_37 (by rw [c6]; decide) (by rw [c6]; decide) (by rw [c6]; decide) (by decide) ?_
          refine lv_iload_n hx hb dX6_mayBe_84 rfl (lv_at hl 0 rfl) ?_
          refine lv_bipush (v := 45) hx hb dX6_mayBe_85 (by decide) ?_
          refine lv_icmp_eq (tgt := 97) hx hb dX6_mayBe_87 (by decide) (fun c7 => ?_) (fun c7 => ?_)
          · replace hf := dg_t c7 hf
            refine lv_iconst (v := 1) hx hb dX6_mayBe_97 (by decide) ?_
            refine lv_goto (tgt := 102) hx hb dX6_mayBe_98 (by decide) ?_
            have he := Option.some.inj hf
            have hP9 := hP
            have hD9 := hD
            exact W.zret (v := (1:Int32)) (ty := .boolean) hx hb hr (by decide) (fun t eth hW => ⟨⟨(1:Int32), (), rfl, he.symm, by rw [eth]; exact hP9, va_K.moved hW.alike hK, hD9⟩, hS.F eth⟩) hS.2.2 dX6_mayBe_102
          · replace hf := dg_f c7 hf
            refine lv_iload_n hx hb dX6_mayBe_90 rfl (lv_at hl 0 rfl) ?_
            obtain ⟨x8, hx8, hf⟩ := dg_bind hf
            have hPc : va_P (dC, dI) vwCl [] s.heap := hP.sub [] rfl
            have hDc : va_D A [] := hD.sub [] (by decide) rfl
            have hFc := va_free (wc := []) hD hS hA [] rfl
            refine va_calli (va_runS (As := [.int (vt_text a1.toNatClampNeg)]) (rest := []) ⟨hx, hb, hml, hown, hts⟩ (k_X6_isWord l dC dI cI cJ cZ s.heap.size (vt_text a1.toNatClampNeg) N x8 hx8) (va_cwS 1 hts gX6_mayBe_X6_isWord rfl rfl rfl hd_X6_isWord ⟨Nat.le_of_ble_eq_true rfl, Nat.le_of_ble_eq_true rfl⟩) ⟨blind_pc, pre_pc hPc hK hDc⟩ rfl rfl hl.1 rfl (lv_room (Nat.le_of_ble_eq_true rfl)) dX6_mayBe_91 ⟨Nat.zero_le _, Nat.zero_le _⟩) hS (fun q _ h => hFc q h) hFc (fun r u t H1 locs eth hvm hw hB hz1 hk1 hS => ?_)
            obtain ⟨hP1, hK1, hD1⟩ := hB
            rw [eth] at hP1
            subst hw
            obtain ⟨hP, hD⟩ := va_join (wr := [(ht, .inr (5, [.int vt_clerks, .ref ht_drops, .ref ht_tires, .ref ht_now, .ref ht_told, .ref ht_text, .int vt_length, .ref ht_pages, .int vt_acts, .int vt_next, .ref ht_row, .int vt_found, .ref ht_alike, .ref ht_table, .ref ht_keys, .ref ht_own, .long vt_seed, .ref ht_isKept, .ref ht_kept])), (ht_text, .inl (cI, 32, .inl vt_text))]) (w1 := []) hP hD [] [0, 1] rfl rfl (by decide) (by decide) hk1 hFc hP1 hD1
            clear hP1 hK1 hD1 hPc hDc hFc hk1 hz1 hvm eth
            generalize H1 = H at hP hS ⊢
            have hP : va_P (dC, dI) vwCl [(ht, .inr (5, [.int vt_clerks, .ref ht_drops, .ref ht_tires, .ref ht_now, .ref ht_told, .ref ht_text, .int vt_length, .ref ht_pages, .int vt_acts, .int vt_next, .ref ht_row, .int vt_found, .ref ht_alike, .ref ht_table, .ref ht_keys, .ref ht_own, .long vt_seed, .ref ht_isKept, .ref ht_kept])), (ht_text, .inl (cI, 32, .inl vt_text))] H := hP
            have hD : va_D A [(ht, .inr (5, [.int vt_clerks, .ref ht_drops, .ref ht_tires, .ref ht_now, .ref ht_told, .ref ht_text, .int vt_length, .ref ht_pages, .int vt_acts, .int vt_next, .ref ht_row, .int vt_found, .ref ht_alike, .ref ht_table, .ref ht_keys, .ref ht_own, .long vt_seed, .ref ht_isKept, .ref ht_kept])), (ht_text, .inl (cI, 32, .inl vt_text))] := hD
            refine lv_if_eq (tgt := 101) hx hb dX6_mayBe_94 (by decide) (fun c9 => ?_) (fun c9 => ?_)
            · replace hf := dg_t c9 hf
              refine lv_iconst (v := 0) hx hb dX6_mayBe_101 (by decide) ?_
              have he := Option.some.inj hf
              have hP9 := hP
              have hD9 := hD
              exact W.zret (v := (0:Int32)) (ty := .boolean) hx hb hr (by decide) (fun t eth hW => ⟨⟨(0:Int32), (), rfl, he.symm, by rw [eth]; exact hP9, va_K.moved hW.alike hK, hD9⟩, hS.F eth⟩) hS.2.2 dX6_mayBe_102
            · replace hf := dg_f c9 hf
              refine lv_iconst (v := 1) hx hb dX6_mayBe_97 (by decide) ?_
              refine lv_goto (tgt := 102) hx hb dX6_mayBe_98 (by decide) ?_
              have he := Option.some.inj hf
              have hP9 := hP
              have hD9 := hD
              exact W.zret (v := (1:Int32)) (ty := .boolean) hx hb hr (by decide) (fun t eth hW => ⟨⟨(1:Int32), (), rfl, he.symm, by rw [eth]; exact hP9, va_K.moved hW.alike hK, hD9⟩, hS.F eth⟩) hS.2.2 dX6_mayBe_102
        · replace hf := dg_f c6 hf
          by_cases c10 : ((a1 - (1:Int32)) - (a1 - (1:Int32)) / (6:Int32) * (6:Int32)) = (2:Int32)
          · replace hf := dg_t c10 hf
            refine lv_tableIn (off := 47) (tgt := 84) hx hb dX6_mayBe_37 (by rw [c10]; decide) (by rw [c10]; decide) (by rw [c10]; decide) (by decide) ?_
            refine lv_iload_n hx hb dX6_mayBe_84 rfl (lv_at hl 0 rfl) ?_
            refine lv_bipush (v := 45) hx hb dX6_mayBe_85 (by decide) ?_
            refine lv_icmp_eq (tgt := 97) hx hb dX6_mayBe_87 (by decide) (fun c11 => ?_) (fun c11 => ?_)
            · replace hf := dg_t c11 hf
              refine lv_iconst (v := 1) hx hb dX6_mayBe_97 (by decide) ?_
              refine lv_goto (tgt := 102) hx hb dX6_mayBe_98 (by decide) ?_
              have he := Option.some.inj hf
              have hP9 := hP
              have hD9 := hD
              exact W.zret (v := (1:Int32)) (ty := .boolean) hx hb hr (by decide) (fun t eth hW => ⟨⟨(1:Int32), (), rfl, he.symm, by rw [eth]; exact hP9, va_K.moved hW.alike hK, hD9⟩, hS.F eth⟩) hS.2.2 dX6_mayBe_102
            · replace hf := dg_f c11 hf
              refine lv_iload_n hx hb dX6_mayBe_90 rfl (lv_at hl 0 rfl) ?_
              obtain ⟨x12, hx12, hf⟩ := dg_bind hf
              have hPc : va_P (dC, dI) vwCl [] s.heap := hP.sub [] rfl
              have hDc : va_D A [] := hD.sub [] (by decide) rfl
              have hFc := va_free (wc := []) hD hS hA [] rfl
              refine va_calli (va_runS (As := [.int (vt_text a1.toNatClampNeg)]) (rest := []) ⟨hx, hb, hml, hown, hts⟩ (k_X6_isWord l dC dI cI cJ cZ s.heap.size (vt_text a1.toNatClampNeg) N x12 hx12) (va_cwS 1 hts gX6_mayBe_X6_isWord rfl rfl rfl hd_X6_isWord ⟨Nat.le_of_ble_eq_true rfl, Nat.le_of_ble_eq_true rfl⟩) ⟨blind_pc, pre_pc hPc hK hDc⟩ rfl rfl hl.1 rfl (lv_room (Nat.le_of_ble_eq_true rfl)) dX6_mayBe_91 ⟨Nat.zero_le _, Nat.zero_le _⟩) hS (fun q _ h => hFc q h) hFc (fun r u t H1 locs eth hvm hw hB hz1 hk1 hS => ?_)
              obtain ⟨hP1, hK1, hD1⟩ := hB
              rw [eth] at hP1
              subst hw
              obtain ⟨hP, hD⟩ := va_join (wr := [(ht, .inr (5, [.int vt_clerks, .ref ht_drops, .ref ht_tires, .ref ht_now, .ref ht_told, .ref ht_text, .int vt_length, .ref ht_pages, .int vt_acts, .int vt_next, .ref ht_row, .int vt_found, .ref ht_alike, .ref ht_table, .ref ht_keys, .ref ht_own, .long vt_seed, .ref ht_isKept, .ref ht_kept])), (ht_text, .inl (cI, 32, .inl vt_text))]) (w1 := []) hP hD [] [0, 1] rfl rfl (by decide) (by decide) hk1 hFc hP1 hD1
              clear hP1 hK1 hD1 hPc hDc hFc hk1 hz1 hvm eth
              generalize H1 = H at hP hS ⊢
              have hP : va_P (dC, dI) vwCl [(ht, .inr (5, [.int vt_clerks, .ref ht_drops, .ref ht_tires, .ref ht_now, .ref ht_told, .ref ht_text, .int vt_length, .ref ht_pages, .int vt_acts, .int vt_next, .ref ht_row, .int vt_found, .ref ht_alike, .ref ht_table, .ref ht_keys, .ref ht_own, .long vt_seed, .ref ht_isKept, .ref ht_kept])), (ht_text, .inl (cI, 32, .inl vt_text))] H := hP
              have hD : va_D A [(ht, .inr (5, [.int vt_clerks, .ref ht_drops, .ref ht_tires, .ref ht_now, .ref ht_told, .ref ht_text, .int vt_length, .ref ht_pages, .int vt_acts, .int vt_next, .ref ht_row, .int vt_found, .ref ht_alike, .ref ht_table, .ref ht_keys, .ref ht_own, .long vt_seed, .ref ht_isKept, .ref ht_kept])), (ht_text, .inl (cI, 32, .inl vt_text))] := hD
              refine lv_if_eq (tgt := 101) hx hb dX6_mayBe_94 (by decide) (fun c13 => ?_) (fun c13 => ?_)
              · replace hf := dg_t c13 hf
                refine lv_iconst (v := 0) hx hb dX6_mayBe_101 (by decide) ?_
                have he := Option.some.inj hf
                have hP9 := hP
                have hD9 := hD
                exact W.zret (v := (0:Int32)) (ty := .boolean) hx hb hr (by decide) (fun t eth hW => ⟨⟨(0:Int32), (), rfl, he.symm, by rw [eth]; exact hP9, va_K.moved hW.alike hK, hD9⟩, hS.F eth⟩) hS.2.2 dX6_mayBe_102
              · replace hf := dg_f c13 hf
                refine lv_iconst (v := 1) hx hb dX6_mayBe_97 (by decide) ?_
                refine lv_goto (tgt := 102) hx hb dX6_mayBe_98 (by decide) ?_
                have he := Option.some.inj hf
                have hP9 := hP
                have hD9 := hD
                exact W.zret (v := (1:Int32)) (ty := .boolean) hx hb hr (by decide) (fun t eth hW => ⟨⟨(1:Int32), (), rfl, he.symm, by rw [eth]; exact hP9, va_K.moved hW.alike hK, hD9⟩, hS.F eth⟩) hS.2.2 dX6_mayBe_102
          · replace hf := dg_f c10 hf
            by_cases c14 : ((a1 - (1:Int32)) - (a1 - (1:Int32)) / (6:Int32) * (6:Int32)) = (3:Int32)
            · replace hf := dg_t c14 hf
              refine lv_tableIn (off := 66) (tgt := 103) hx hb dX6_mayBe_37 (by rw [c14]; decide) (by rw [c14]; decide) (by rw [c14]; decide) (by decide) ?_
              refine lv_aload_n hx hb dX6_mayBe_103 rfl (lv_at hl 1 rfl) ?_
              refine va_get (D := (dC, dI)) (ci := 5) (v := .ref ht_text) (C := RX6) (T := TX6) (N := 19) hx hb hts hinX6 hown hK hP 0 rfl rfl 5 (by decide) hw0 (fun _ h9 => h9) rfl dX6_mayBe_104 ?_
              refine lv_iload_n hx hb dX6_mayBe_107 rfl (lv_at hl 2 rfl) ?_
              refine lv_iconst (v := 1) hx hb dX6_mayBe_108 (by decide) ?_
              refine lv_isub hx hb dX6_mayBe_109 ?_
              obtain ⟨hi15, hf⟩ := dg_ix hf
              refine va_iald hx hb hK hP 1 0 rfl rfl hi15 dX6_mayBe_110 ?_
              refine lv_bipush (v := 45) hx hb dX6_mayBe_111 (by decide) ?_
              refine lv_icmp_ne (tgt := 130) hx hb dX6_mayBe_113 (by decide) (fun c16 => ?_) (fun c16 => ?_)
              · replace hf := dg_f c16 hf
                refine lv_iload_n hx hb dX6_mayBe_130 rfl (lv_at hl 0 rfl) ?_
                obtain ⟨x17, hx17, hf⟩ := dg_bind hf
                have hPc : va_P (dC, dI) vwCl [] s.heap := hP.sub [] rfl
                have hDc : va_D A [] := hD.sub [] (by decide) rfl
                have hFc := va_free (wc := []) hD hS hA [] rfl
                refine va_calli (va_runS (As := [.int (vt_text a1.toNatClampNeg)]) (rest := []) ⟨hx, hb, hml, hown, hts⟩ (k_X6_isWord l dC dI cI cJ cZ s.heap.size (vt_text a1.toNatClampNeg) N x17 hx17) (va_cwS 1 hts gX6_mayBe_X6_isWord rfl rfl rfl hd_X6_isWord ⟨Nat.le_of_ble_eq_true rfl, Nat.le_of_ble_eq_true rfl⟩) ⟨blind_pc, pre_pc hPc hK hDc⟩ rfl rfl hl.1 rfl (lv_room (Nat.le_of_ble_eq_true rfl)) dX6_mayBe_131 ⟨Nat.zero_le _, Nat.zero_le _⟩) hS (fun q _ h => hFc q h) hFc (fun r u t H1 locs eth hvm hw hB hz1 hk1 hS => ?_)
                obtain ⟨hP1, hK1, hD1⟩ := hB
                rw [eth] at hP1
                subst hw
                obtain ⟨hP, hD⟩ := va_join (wr := [(ht, .inr (5, [.int vt_clerks, .ref ht_drops, .ref ht_tires, .ref ht_now, .ref ht_told, .ref ht_text, .int vt_length, .ref ht_pages, .int vt_acts, .int vt_next, .ref ht_row, .int vt_found, .ref ht_alike, .ref ht_table, .ref ht_keys, .ref ht_own, .long vt_seed, .ref ht_isKept, .ref ht_kept])), (ht_text, .inl (cI, 32, .inl vt_text))]) (w1 := []) hP hD [] [0, 1] rfl rfl (by decide) (by decide) hk1 hFc hP1 hD1
                clear hP1 hK1 hD1 hPc hDc hFc hk1 hz1 hvm eth
                generalize H1 = H at hP hS ⊢
                have hP : va_P (dC, dI) vwCl [(ht, .inr (5, [.int vt_clerks, .ref ht_drops, .ref ht_tires, .ref ht_now, .ref ht_told, .ref ht_text, .int vt_length, .ref ht_pages, .int vt_acts, .int vt_next, .ref ht_row, .int vt_found, .ref ht_alike, .ref ht_table, .ref ht_keys, .ref ht_own, .long vt_seed, .ref ht_isKept, .ref ht_kept])), (ht_text, .inl (cI, 32, .inl vt_text))] H := hP
                have hD : va_D A [(ht, .inr (5, [.int vt_clerks, .ref ht_drops, .ref ht_tires, .ref ht_now, .ref ht_told, .ref ht_text, .int vt_length, .ref ht_pages, .int vt_acts, .int vt_next, .ref ht_row, .int vt_found, .ref ht_alike, .ref ht_table, .ref ht_keys, .ref ht_own, .long vt_seed, .ref ht_isKept, .ref ht_kept])), (ht_text, .inl (cI, 32, .inl vt_text))] := hD
                refine lv_if_eq (tgt := 153) hx hb dX6_mayBe_134 (by decide) (fun c18 => ?_) (fun c18 => ?_)
                · replace hf := dg_t c18 hf
                  refine lv_iconst (v := 0) hx hb dX6_mayBe_153 (by decide) ?_
                  have he := Option.some.inj hf
                  have hP9 := hP
                  have hD9 := hD
                  exact W.zret (v := (0:Int32)) (ty := .boolean) hx hb hr (by decide) (fun t eth hW => ⟨⟨(0:Int32), (), rfl, he.symm, by rw [eth]; exact hP9, va_K.moved hW.alike hK, hD9⟩, hS.F eth⟩) hS.2.2 dX6_mayBe_154
                · replace hf := dg_f c18 hf
                  refine lv_iload_n hx hb dX6_mayBe_137 rfl (lv_at hl 0 rfl) ?_
                  refine lv_aload_n hx hb dX6_mayBe_138 rfl (lv_at hl 1 rfl) ?_
                  refine va_get (D := (dC, dI)) (ci := 5) (v := .ref ht_text) (C := RX6) (T := TX6) (N := 19) hx hb hts hinX6 hown hK hP 0 rfl rfl 5 (by decide) hw0 (fun _ h9 => h9) rfl dX6_mayBe_139 ?_
                  refine lv_iload_n hx hb dX6_mayBe_142 rfl (lv_at hl 2 rfl) ?_
                  refine lv_iconst (v := 1) hx hb dX6_mayBe_143 (by decide) ?_
                  refine lv_isub hx hb dX6_mayBe_144 ?_
                  obtain ⟨hi19, hf⟩ := dg_ix hf
                  refine va_iald hx hb hK hP 1 0 rfl rfl hi19 dX6_mayBe_145 ?_
                  refine lv_icmp_eq (tgt := 153) hx hb dX6_mayBe_146 (by decide) (fun c20 => ?_) (fun c20 => ?_)
                  · replace hf := dg_t c20 hf
                    refine lv_iconst (v := 0) hx hb dX6_mayBe_153 (by decide) ?_
                    have he := Option.some.inj hf
                    have hP9 := hP
                    have hD9 := hD
                    exact W.zret (v := (0:Int32)) (ty := .boolean) hx hb hr (by decide) (fun t eth hW => ⟨⟨(0:Int32), (), rfl, he.symm, by rw [eth]; exact hP9, va_K.moved hW.alike hK, hD9⟩, hS.F eth⟩) hS.2.2 dX6_mayBe_154
                  · replace hf := dg_f c20 hf
                    refine lv_iconst (v := 1) hx hb dX6_mayBe_149 (by decide) ?_
                    refine lv_goto (tgt := 154) hx hb dX6_mayBe_150 (by decide) ?_
                    have he := Option.some.inj hf
                    have hP9 := hP
                    have hD9 := hD
                    exact W.zret (v := (1:Int32)) (ty := .boolean) hx hb hr (by decide) (fun t eth hW => ⟨⟨(1:Int32), (), rfl, he.symm, by rw [eth]; exact hP9, va_K.moved hW.alike hK, hD9⟩, hS.F eth⟩) hS.2.2 dX6_mayBe_154
              · replace hf := dg_t c16 hf
                refine lv_iload_n hx hb dX6_mayBe_116 rfl (lv_at hl 0 rfl) ?_
                refine lv_bipush (v := 45) hx hb dX6_mayBe_117 (by decide) ?_
                refine lv_icmp_ne (tgt := 126) hx hb dX6_mayBe_119 (by decide) (fun c21 => ?_) (fun c21 => ?_)
                · replace hf := dg_f c21 hf
                  refine lv_iconst (v := 0) hx hb dX6_mayBe_126 (by decide) ?_
                  refine lv_goto (tgt := 154) hx hb dX6_mayBe_127 (by decide) ?_
                  have he := Option.some.inj hf
                  have hP9 := hP
                  have hD9 := hD
                  exact W.zret (v := (0:Int32)) (ty := .boolean) hx hb hr (by decide) (fun t eth hW => ⟨⟨(0:Int32), (), rfl, he.symm, by rw [eth]; exact hP9, va_K.moved hW.alike hK, hD9⟩, hS.F eth⟩) hS.2.2 dX6_mayBe_154
                · replace hf := dg_t c21 hf
                  refine lv_iconst (v := 1) hx hb dX6_mayBe_122 (by decide) ?_
                  refine lv_goto (tgt := 154) hx hb dX6_mayBe_123 (by decide) ?_
                  have he := Option.some.inj hf
                  have hP9 := hP
                  have hD9 := hD
                  exact W.zret (v := (1:Int32)) (ty := .boolean) hx hb hr (by decide) (fun t eth hW => ⟨⟨(1:Int32), (), rfl, he.symm, by rw [eth]; exact hP9, va_K.moved hW.alike hK, hD9⟩, hS.F eth⟩) hS.2.2 dX6_mayBe_154
            · replace hf := dg_f c14 hf
              by_cases c22 : ((a1 - (1:Int32)) - (a1 - (1:Int32)) / (6:Int32) * (6:Int32)) = (4:Int32)
              · replace hf := dg_t c22 hf
                refine lv_tableIn (off := 118) (tgt := 155) hx hb dX6_mayBe_37 (by rw [c22]; decide) (by rw [c22]; decide) (by rw [c22]; decide) (by decide) ?_
                refine lv_iload_n hx hb dX6_mayBe_155 rfl (lv_at hl 0 rfl) ?_
                refine lv_i2l hx hb dX6_mayBe_156 rfl ?_
                refine lv_ldc2 (v := 48) hx hb hown hw1 dX6_mayBe_157 ?_
                refine lv_ldc2 (v := 57) hx hb hown hw2 dX6_mayBe_160 ?_
                obtain ⟨x23, hx23, hf⟩ := dg_bind hf
                have hPc : va_P (dC, dI) vwCl [] s.heap := hP.sub [] rfl
                have hDc : va_D A [] := hD.sub [] (by decide) rfl
                have hFc := va_free (wc := []) hD hS hA [] rfl
                refine va_calli (va_runS (As := [.long (vt_text a1.toNatClampNeg).toInt64, .long (48:Int64), .long (57:Int64)]) (rest := []) ⟨hx, hb, hml, hown, hts⟩ (k_X6_in l dC dI cI cJ cZ s.heap.size (vt_text a1.toNatClampNeg).toInt64 (48:Int64) (57:Int64) N x23 hx23) (va_cwS 3 hts gX6_mayBe_X6_in rfl rfl rfl hd_X6_in ⟨Nat.le_of_ble_eq_true rfl, Nat.le_of_ble_eq_true rfl⟩) ⟨blind_pc, pre_pc hPc hK hDc⟩ rfl rfl hl.1 rfl (lv_room (Nat.le_of_ble_eq_true rfl)) dX6_mayBe_163 ⟨Nat.zero_le _, Nat.zero_le _⟩) hS (fun q _ h => hFc q h) hFc (fun r u t H1 locs eth hvm hw hB hz1 hk1 hS => ?_)
                obtain ⟨hP1, hK1, hD1⟩ := hB
                rw [eth] at hP1
                subst hw
                obtain ⟨hP, hD⟩ := va_join (wr := [(ht, .inr (5, [.int vt_clerks, .ref ht_drops, .ref ht_tires, .ref ht_now, .ref ht_told, .ref ht_text, .int vt_length, .ref ht_pages, .int vt_acts, .int vt_next, .ref ht_row, .int vt_found, .ref ht_alike, .ref ht_table, .ref ht_keys, .ref ht_own, .long vt_seed, .ref ht_isKept, .ref ht_kept])), (ht_text, .inl (cI, 32, .inl vt_text))]) (w1 := []) hP hD [] [0, 1] rfl rfl (by decide) (by decide) hk1 hFc hP1 hD1
                clear hP1 hK1 hD1 hPc hDc hFc hk1 hz1 hvm eth
                generalize H1 = H at hP hS ⊢
                have hP : va_P (dC, dI) vwCl [(ht, .inr (5, [.int vt_clerks, .ref ht_drops, .ref ht_tires, .ref ht_now, .ref ht_told, .ref ht_text, .int vt_length, .ref ht_pages, .int vt_acts, .int vt_next, .ref ht_row, .int vt_found, .ref ht_alike, .ref ht_table, .ref ht_keys, .ref ht_own, .long vt_seed, .ref ht_isKept, .ref ht_kept])), (ht_text, .inl (cI, 32, .inl vt_text))] H := hP
                have hD : va_D A [(ht, .inr (5, [.int vt_clerks, .ref ht_drops, .ref ht_tires, .ref ht_now, .ref ht_told, .ref ht_text, .int vt_length, .ref ht_pages, .int vt_acts, .int vt_next, .ref ht_row, .int vt_found, .ref ht_alike, .ref ht_table, .ref ht_keys, .ref ht_own, .long vt_seed, .ref ht_isKept, .ref ht_kept])), (ht_text, .inl (cI, 32, .inl vt_text))] := hD
                obtain ⟨hz24, hf⟩ := dg_z hf
                have he := Option.some.inj hf
                have hP9 := hP
                have hD9 := hD
                exact W.zret (v := x23) (ty := .boolean) hx hb hr hz24 (fun t eth hW => ⟨⟨x23, (), rfl, he.symm, by rw [eth]; exact hP9, va_K.moved hW.alike hK, hD9⟩, hS.F eth⟩) hS.2.2 dX6_mayBe_166
              · replace hf := dg_f c22 hf
                refine lv_tableOut (tgt := 167) hx hb dX6_mayBe_37 (by have qc4 := lv_neT (a := 0) c4 (by decide); have qc6 := lv_neT (a := 1) c6 (by decide); have qc10 := lv_neT (a := 2) c10 (by decide); have qc14 := lv_neT (a := 3) c14 (by decide); have qc22 := lv_neT (a := 4) c22 (by decide); omega) (by decide) ?_
                refine lv_iload_n hx hb dX6_mayBe_167 rfl (lv_at hl 0 rfl) ?_
                refine lv_bipush (v := 45) hx hb dX6_mayBe_168 (by decide) ?_
                refine lv_icmp_eq (tgt := 194) hx hb dX6_mayBe_170 (by decide) (fun c25 => ?_) (fun c25 => ?_)
                · replace hf := dg_t c25 hf
                  refine lv_iconst (v := 1) hx hb dX6_mayBe_194 (by decide) ?_
                  refine lv_goto (tgt := 199) hx hb dX6_mayBe_195 (by decide) ?_
                  have he := Option.some.inj hf
                  have hP9 := hP
                  have hD9 := hD
                  exact W.zret (v := (1:Int32)) (ty := .boolean) hx hb hr (by decide) (fun t eth hW => ⟨⟨(1:Int32), (), rfl, he.symm, by rw [eth]; exact hP9, va_K.moved hW.alike hK, hD9⟩, hS.F eth⟩) hS.2.2 dX6_mayBe_199
                · replace hf := dg_f c25 hf
                  refine lv_iload_n hx hb dX6_mayBe_173 rfl (lv_at hl 0 rfl) ?_
                  refine lv_i2l hx hb dX6_mayBe_174 rfl ?_
                  refine lv_ldc2 (v := 48) hx hb hown hw1 dX6_mayBe_175 ?_
                  refine lv_bipush (v := 47) hx hb dX6_mayBe_178 (by decide) ?_
                  refine lv_iload_n hx hb dX6_mayBe_180 rfl (lv_at hl 2 rfl) ?_
                  refine lv_iconst (v := 1) hx hb dX6_mayBe_181 (by decide) ?_
                  refine lv_isub hx hb dX6_mayBe_182 ?_
                  refine lv_bipush (v := 6) hx hb dX6_mayBe_183 (by decide) ?_
                  refine lv_idiv hx hb dX6_mayBe_185 (by decide) ?_
                  refine lv_iadd hx hb dX6_mayBe_186 ?_
                  refine lv_i2l hx hb dX6_mayBe_187 rfl ?_
                  obtain ⟨x26, hx26, hf⟩ := dg_bind hf
                  have hPc : va_P (dC, dI) vwCl [] s.heap := hP.sub [] rfl
                  have hDc : va_D A [] := hD.sub [] (by decide) rfl
                  have hFc := va_free (wc := []) hD hS hA [] rfl
                  refine va_calli (va_runS (As := [.long (vt_text a1.toNatClampNeg).toInt64, .long (48:Int64), .long ((47:Int32) + ((a1 - (1:Int32)) / (6:Int32))).toInt64]) (rest := []) ⟨hx, hb, hml, hown, hts⟩ (k_X6_in l dC dI cI cJ cZ s.heap.size (vt_text a1.toNatClampNeg).toInt64 (48:Int64) ((47:Int32) + ((a1 - (1:Int32)) / (6:Int32))).toInt64 N x26 hx26) (va_cwS 3 hts gX6_mayBe_X6_in rfl rfl rfl hd_X6_in ⟨Nat.le_of_ble_eq_true rfl, Nat.le_of_ble_eq_true rfl⟩) ⟨blind_pc, pre_pc hPc hK hDc⟩ rfl rfl hl.1 rfl (lv_room (Nat.le_of_ble_eq_true rfl)) dX6_mayBe_188 ⟨Nat.zero_le _, Nat.zero_le _⟩) hS (fun q _ h => hFc q h) hFc (fun r u t H1 locs eth hvm hw hB hz1 hk1 hS => ?_)
                  obtain ⟨hP1, hK1, hD1⟩ := hB
                  rw [eth] at hP1
                  subst hw
                  obtain ⟨hP, hD⟩ := va_join (wr := [(ht, .inr (5, [.int vt_clerks, .ref ht_drops, .ref ht_tires, .ref ht_now, .ref ht_told, .ref ht_text, .int vt_length, .ref ht_pages, .int vt_acts, .int vt_next, .ref ht_row, .int vt_found, .ref ht_alike, .ref ht_table, .ref ht_keys, .ref ht_own, .long vt_seed, .ref ht_isKept, .ref ht_kept])), (ht_text, .inl (cI, 32, .inl vt_text))]) (w1 := []) hP hD [] [0, 1] rfl rfl (by decide) (by decide) hk1 hFc hP1 hD1
                  clear hP1 hK1 hD1 hPc hDc hFc hk1 hz1 hvm eth
                  generalize H1 = H at hP hS ⊢
                  have hP : va_P (dC, dI) vwCl [(ht, .inr (5, [.int vt_clerks, .ref ht_drops, .ref ht_tires, .ref ht_now, .ref ht_told, .ref ht_text, .int vt_length, .ref ht_pages, .int vt_acts, .int vt_next, .ref ht_row, .int vt_found, .ref ht_alike, .ref ht_table, .ref ht_keys, .ref ht_own, .long vt_seed, .ref ht_isKept, .ref ht_kept])), (ht_text, .inl (cI, 32, .inl vt_text))] H := hP
                  have hD : va_D A [(ht, .inr (5, [.int vt_clerks, .ref ht_drops, .ref ht_tires, .ref ht_now, .ref ht_told, .ref ht_text, .int vt_length, .ref ht_pages, .int vt_acts, .int vt_next, .ref ht_row, .int vt_found, .ref ht_alike, .ref ht_table, .ref ht_keys, .ref ht_own, .long vt_seed, .ref ht_isKept, .ref ht_kept])), (ht_text, .inl (cI, 32, .inl vt_text))] := hD
                  refine lv_if_eq (tgt := 198) hx hb dX6_mayBe_191 (by decide) (fun c27 => ?_) (fun c27 => ?_)
                  · replace hf := dg_t c27 hf
                    refine lv_iconst (v := 0) hx hb dX6_mayBe_198 (by decide) ?_
                    have he := Option.some.inj hf
                    have hP9 := hP
                    have hD9 := hD
                    exact W.zret (v := (0:Int32)) (ty := .boolean) hx hb hr (by decide) (fun t eth hW => ⟨⟨(0:Int32), (), rfl, he.symm, by rw [eth]; exact hP9, va_K.moved hW.alike hK, hD9⟩, hS.F eth⟩) hS.2.2 dX6_mayBe_199
                  · replace hf := dg_f c27 hf
                    refine lv_iconst (v := 1) hx hb dX6_mayBe_194 (by decide) ?_
                    refine lv_goto (tgt := 199) hx hb dX6_mayBe_195 (by decide) ?_
                    have he := Option.some.inj hf
                    have hP9 := hP
                    have hD9 := hD
                    exact W.zret (v := (1:Int32)) (ty := .boolean) hx hb hr (by decide) (fun t eth hW => ⟨⟨(1:Int32), (), rfl, he.symm, by rw [eth]; exact hP9, va_K.moved hW.alike hK, hD9⟩, hS.F eth⟩) hS.2.2 dX6_mayBe_199
    · replace hf := dg_f c3 hf
      refine lv_iconst (v := 0) hx hb dX6_mayBe_29 (by decide) ?_
      have he := Option.some.inj hf
      have hP9 := hP
      have hD9 := hD
      exact W.zret (v := (0:Int32)) (ty := .boolean) hx hb hr (by decide) (fun t eth hW => ⟨⟨(0:Int32), (), rfl, he.symm, by rw [eth]; exact hP9, va_K.moved hW.alike hK, hD9⟩, hS.F eth⟩) hS.2.2 dX6_mayBe_30
  · replace hf := dg_t c2 hf
    refine lv_iload_n hx hb dX6_mayBe_11 rfl (lv_at hl 0 rfl) ?_
    refine lv_bipush (v := 67) hx hb dX6_mayBe_12 (by decide) ?_
    refine lv_icmp_ne (tgt := 21) hx hb dX6_mayBe_14 (by decide) (fun c28 => ?_) (fun c28 => ?_)
    · replace hf := dg_f c28 hf
      refine lv_iconst (v := 0) hx hb dX6_mayBe_21 (by decide) ?_
      have he := Option.some.inj hf
      have hP9 := hP
      have hD9 := hD
      exact W.zret (v := (0:Int32)) (ty := .boolean) hx hb hr (by decide) (fun t eth hW => ⟨⟨(0:Int32), (), rfl, he.symm, by rw [eth]; exact hP9, va_K.moved hW.alike hK, hD9⟩, hS.F eth⟩) hS.2.2 dX6_mayBe_22
    · replace hf := dg_t c28 hf
      refine lv_iconst (v := 1) hx hb dX6_mayBe_17 (by decide) ?_
      refine lv_goto (tgt := 22) hx hb dX6_mayBe_18 (by decide) ?_
      have he := Option.some.inj hf
      have hP9 := hP
      have hD9 := hD
      exact W.zret (v := (1:Int32)) (ty := .boolean) hx hb hr (by decide) (fun t eth hW => ⟨⟨(1:Int32), (), rfl, he.symm, by rw [eth]; exact hP9, va_K.moved hW.alike hK, hD9⟩, hS.F eth⟩) hS.2.2 dX6_mayBe_22
