theorem hd_X5_habitGives : yX5_habitGives.cls = RX5 ∧ yX5_habitGives.cls ≠ "java/lang/invoke/MethodHandle" ∧ yX5_habitGives.cls ≠ "java/lang/invoke/VarHandle" ∧ (parseMethodDescriptor yX5_habitGives.desc).map (fun d => d.parameters.length) = some 2 := by decide +kernel
abbrev rm_X5_habitGives : Room := { frames := 2, cells := 0, slots := 0, locals := 51 }
abbrev q_X5_habitGives (dC : Nat → ClassId) (dI : Nat → Nat → Nat) (cI cJ cZ : ClassId) (ht ht_text ht_bench ht_acts ht_drawers ht_told ht_pagesOfTrial ht_kept : Nat) (vt_spoken : Int32) (vt_nowSeed : Int64) (R : Int32) (A : Nat → Prop) : Array Value → State → Outcome → State → Prop := va_Qi (fun (r : Int32) (_ : Unit) => R = r) (fun (u : Unit) (t : State) => va_P (dC, dI) vwCl [(ht, .inr (4, [.ref ht_text, .ref ht_bench, .ref ht_acts, .ref ht_drawers, .ref ht_told, .ref ht_pagesOfTrial, .ref ht_kept, .int vt_spoken, .long vt_nowSeed]))] t.heap ∧ va_K (dC, dI) vwCl [(cI, .int), (cJ, .long), (cZ, .boolean)] t ∧ va_D A [(ht, .inr (4, [.ref ht_text, .ref ht_bench, .ref ht_acts, .ref ht_drawers, .ref ht_told, .ref ht_pagesOfTrial, .ref ht_kept, .int vt_spoken, .long vt_nowSeed]))]) A
set_option maxHeartbeats 4000000 in
set_option maxRecDepth 100000 in
theorem k_X5_habitGives (l : Launch) (dC : Nat → ClassId) (dI : Nat → Nat → Nat) (cI cJ cZ : ClassId) (sz : Nat) (ht ht_text ht_bench ht_acts ht_drawers ht_told ht_pagesOfTrial ht_kept : Nat) (a1 : Int32) (a2 : Int32) (vt_spoken : Int32) (vt_nowSeed : Int64) (N : Nat) (R : Int32) (hf : f_X5_habitGives N a1 a2 vt_spoken = some R) : Met l yX5_habitGives wsX5_habitGives (rm_X5_habitGives) (va_Pc [.ref ht, .int a1, .int a2] (fun U => U.heap.size = sz ∧ va_P (dC, dI) vwCl [(ht, .inr (4, [.ref ht_text, .ref ht_bench, .ref ht_acts, .ref ht_drawers, .ref ht_told, .ref ht_pagesOfTrial, .ref ht_kept, .int vt_spoken, .long vt_nowSeed]))] U.heap ∧ va_K (dC, dI) vwCl [(cI, .int), (cJ, .long), (cZ, .boolean)] U ∧ va_D (fun _ => True) [(ht, .inr (4, [.ref ht_text, .ref ht_bench, .ref ht_acts, .ref ht_drawers, .ref ht_told, .ref ht_pagesOfTrial, .ref ht_kept, .int vt_spoken, .long vt_nowSeed]))])) (q_X5_habitGives dC dI cI cJ cZ ht ht_text ht_bench ht_acts ht_drawers ht_told ht_pagesOfTrial ht_kept vt_spoken vt_nowSeed R (va_A [(ht, .inr (4, [.ref ht_text, .ref ht_bench, .ref ht_acts, .ref ht_drawers, .ref ht_told, .ref ht_pagesOfTrial, .ref ht_kept, .int vt_spoken, .long vt_nowSeed]))] sz)) 0 0 (va_A [(ht, .inr (4, [.ref ht_text, .ref ht_bench, .ref ht_acts, .ref ht_drawers, .ref ht_told, .ref ht_pagesOfTrial, .ref ht_kept, .int vt_spoken, .long vt_nowSeed]))] sz) := by
  refine Met.ofW (cc := cX5_habitGives) (maxL := 6) (ret := (some .boolean)) (by decide) rfl ?_
  intro p e s m args below meth c s₁ B hml hv
  obtain ⟨rfl, hsz, hP, hK, hD0⟩ := hv
  have hx := B.exec
  have hb := B.bytes
  have hr := B.returns
  have hts := atoms_spec (ws := wsX5_habitGives) B.pre
  have hown : s.vm.findClass RX5 = some m.cls := findClass_of_methodNamed B.named
  have hlocks := B.notSynchronized
  clear B
  subst hsz
  have hw0 := hts (.fieldLink RX5 50 "ShorthandCourt" "spoken" "I") (by decide +kernel)
  have hinX5 : ∀ w ∈ u_ws RX5 TX5 9, w ∈ wsX5_habitGives := by decide +kernel
  have hD := hD0.self (sz := s.heap.size)
  clear hD0
  generalize hAe : va_A [(ht, .inr (4, [.ref ht_text, .ref ht_bench, .ref ht_acts, .ref ht_drawers, .ref ht_told, .ref ht_pagesOfTrial, .ref ht_kept, .int vt_spoken, .long vt_nowSeed]))] s.heap.size = A at hD ⊢
  have hA : ∀ q : Nat, s.heap.size ≤ q → A q := fun q h => by rw [← hAe]; exact Or.inr h
  clear hAe
  have hS : va_S A s.heap s.heap [] := va_S.rf
  have hl := lv_entry ([.ref ht, .int a1, .int a2]) (n := 6) (Nat.le_of_ble_eq_true rfl)
  rw [lg_entry_eq]
  generalize (lg_sl ([.ref ht, .int a1, .int a2]) ++ List.replicate (6 - (lg_sl ([.ref ht, .int a1, .int a2])).length) Slot.unset).toArray = ls at hl ⊢
  have hl : lv_has ls 6 [(0, .ref ht), (1, .int a1), (2, .int a2)] := hl
  unfold f_X5_habitGives at hf
  refine lv_iload_n hx hb dX5_habitGives_0 rfl (lv_at hl 1 rfl) ?_
  obtain ⟨x1, hx1, hf⟩ := dg_bind hf
  have hPc : va_P (dC, dI) vwCl [] s.heap := hP.sub [] rfl
  have hDc : va_D A [] := hD.sub [] (by decide) rfl
  have hFc := va_free (wc := []) hD hS hA [] rfl
  refine va_calli (va_runS (As := [.int a1]) (rest := []) ⟨hx, hb, hml, hown, hts⟩ (k_X5_fromOf l dC dI cI cJ cZ s.heap.size a1 N x1 hx1) (va_cwS 1 hts gX5_habitGives_X5_fromOf rfl rfl rfl hd_X5_fromOf ⟨Nat.le_of_ble_eq_true rfl, Nat.le_of_ble_eq_true rfl⟩) ⟨blind_pc, pre_pc hPc hK hDc⟩ rfl rfl hl.1 rfl (lv_room (Nat.le_of_ble_eq_true rfl)) dX5_habitGives_1 ⟨Nat.zero_le _, Nat.zero_le _⟩) hS (fun q _ h => hFc q h) hFc (fun r u t H1 locs eth hvm hw hB hz1 hk1 hS => ?_)
  obtain ⟨hP1, hK1, hD1⟩ := hB
  rw [eth] at hP1
  subst hw
  obtain ⟨hP, hD⟩ := va_join (wr := [(ht, .inr (4, [.ref ht_text, .ref ht_bench, .ref ht_acts, .ref ht_drawers, .ref ht_told, .ref ht_pagesOfTrial, .ref ht_kept, .int vt_spoken, .long vt_nowSeed]))]) (w1 := []) hP hD [] [0] rfl rfl (by decide) (by decide) hk1 hFc hP1 hD1
  clear hP1 hK1 hD1 hPc hDc hFc hk1 hz1 hvm eth
  generalize H1 = H at hP hS ⊢
  have hP : va_P (dC, dI) vwCl [(ht, .inr (4, [.ref ht_text, .ref ht_bench, .ref ht_acts, .ref ht_drawers, .ref ht_told, .ref ht_pagesOfTrial, .ref ht_kept, .int vt_spoken, .long vt_nowSeed]))] H := hP
  have hD : va_D A [(ht, .inr (4, [.ref ht_text, .ref ht_bench, .ref ht_acts, .ref ht_drawers, .ref ht_told, .ref ht_pagesOfTrial, .ref ht_kept, .int vt_spoken, .long vt_nowSeed]))] := hD
  refine lv_istore_n (lv' := [(3, .int x1), (0, .ref ht), (1, .int a1), (2, .int a2)]) hx hb dX5_habitGives_4 rfl hl (by decide) rfl (fun ls hl => ?_)
  refine lv_iload_n hx hb dX5_habitGives_5 rfl (lv_at hl 2 rfl) ?_
  obtain ⟨x2, hx2, hf⟩ := dg_bind hf
  have hPc : va_P (dC, dI) vwCl [] H := hP.sub [] rfl
  have hDc : va_D A [] := hD.sub [] (by decide) rfl
  have hFc := va_free (wc := []) hD hS hA [] rfl
  refine va_calli (va_runS (As := [.int a1]) (rest := []) ⟨hx, hb, hml, hown, hts⟩ (k_X5_toOf l dC dI cI cJ cZ H.size a1 N x2 hx2) (va_cwS 1 hts gX5_habitGives_X5_toOf rfl rfl rfl hd_X5_toOf ⟨Nat.le_of_ble_eq_true rfl, Nat.le_of_ble_eq_true rfl⟩) ⟨blind_pc, pre_pc hPc hK hDc⟩ rfl rfl hl.1 rfl (lv_room (Nat.le_of_ble_eq_true rfl)) dX5_habitGives_6 ⟨Nat.zero_le _, Nat.zero_le _⟩) hS (fun q _ h => hFc q h) hFc (fun r u t H1 locs eth hvm hw hB hz1 hk1 hS => ?_)
  obtain ⟨hP1, hK1, hD1⟩ := hB
  rw [eth] at hP1
  subst hw
  obtain ⟨hP, hD⟩ := va_join (wr := [(ht, .inr (4, [.ref ht_text, .ref ht_bench, .ref ht_acts, .ref ht_drawers, .ref ht_told, .ref ht_pagesOfTrial, .ref ht_kept, .int vt_spoken, .long vt_nowSeed]))]) (w1 := []) hP hD [] [0] rfl rfl (by decide) (by decide) hk1 hFc hP1 hD1
  clear hP1 hK1 hD1 hPc hDc hFc hk1 hz1 hvm eth
  generalize H1 = H at hP hS ⊢
  have hP : va_P (dC, dI) vwCl [(ht, .inr (4, [.ref ht_text, .ref ht_bench, .ref ht_acts, .ref ht_drawers, .ref ht_told, .ref ht_pagesOfTrial, .ref ht_kept, .int vt_spoken, .long vt_nowSeed]))] H := hP
  have hD : va_D A [(ht, .inr (4, [.ref ht_text, .ref ht_bench, .ref ht_acts, .ref ht_drawers, .ref ht_told, .ref ht_pagesOfTrial, .ref ht_kept, .int vt_spoken, .long vt_nowSeed]))] := hD
  refine lv_istore (lv' := [(4, .int x2), (3, .int x1), (0, .ref ht), (1, .int a1), (2, .int a2)]) hx hb dX5_habitGives_9 hl (by decide) rfl (fun ls hl => ?_)
  refine lv_iload_n hx hb dX5_habitGives_11 rfl (lv_at hl 1 rfl) ?_
  refine lv_if_ne (tgt := 28) hx hb dX5_habitGives_12 (by decide) (fun c3 => ?_) (fun c3 => ?_)
  · replace hf := dg_f c3 hf
    refine lv_iload hx hb dX5_habitGives_28 (lv_at hl 0 rfl) ?_
    refine lv_if_eq (tgt := 43) hx hb dX5_habitGives_30 (by decide) (fun c4 => ?_) (fun c4 => ?_)
    · replace hf := dg_t c4 hf
      refine lv_iconst (v := 0) hx hb dX5_habitGives_43 (by decide) ?_
      refine lv_istore (lv' := [(5, .int (0:Int32)), (4, .int x2), (3, .int x1), (0, .ref ht), (1, .int a1), (2, .int a2)]) hx hb dX5_habitGives_44 hl (by decide) rfl (fun ls hl => ?_)
      refine lv_iload hx hb dX5_habitGives_46 (lv_at hl 0 rfl) ?_
      refine lv_if_eq (tgt := 77) hx hb dX5_habitGives_48 (by decide) (fun c5 => ?_) (fun c5 => absurd (by decide) c5)
      refine lv_iconst (v := 0) hx hb dX5_habitGives_77 (by decide) ?_
      have he := Option.some.inj hf
      have hP9 := hP
      have hD9 := hD
      exact W.zret (v := (0:Int32)) (ty := .boolean) hx hb hr (by decide) (fun t eth hW => ⟨⟨(0:Int32), (), rfl, he.symm, by rw [eth]; exact hP9, va_K.moved hW.alike hK, hD9⟩, hS.F eth⟩) hS.2.2 dX5_habitGives_78
    · replace hf := dg_f c4 hf
      refine lv_iload hx hb dX5_habitGives_33 (lv_at hl 0 rfl) ?_
      refine lv_iload_n hx hb dX5_habitGives_35 rfl (lv_at hl 1 rfl) ?_
      refine lv_icmp_eq (tgt := 43) hx hb dX5_habitGives_36 (by decide) (fun c6 => ?_) (fun c6 => ?_)
      · replace hf := dg_t c6 hf
        refine lv_iconst (v := 0) hx hb dX5_habitGives_43 (by decide) ?_
        refine lv_istore (lv' := [(5, .int (0:Int32)), (4, .int x2), (3, .int x1), (0, .ref ht), (1, .int a1), (2, .int a2)]) hx hb dX5_habitGives_44 hl (by decide) rfl (fun ls hl => ?_)
        refine lv_iload hx hb dX5_habitGives_46 (lv_at hl 0 rfl) ?_
        refine lv_if_eq (tgt := 77) hx hb dX5_habitGives_48 (by decide) (fun c7 => ?_) (fun c7 => absurd (by decide) c7)
        refine lv_iconst (v := 0) hx hb dX5_habitGives_77 (by decide) ?_
        have he := Option.some.inj hf
        have hP9 := hP
        have hD9 := hD
        exact W.zret (v := (0:Int32)) (ty := .boolean) hx hb hr (by decide) (fun t eth hW => ⟨⟨(0:Int32), (), rfl, he.symm, by rw [eth]; exact hP9, va_K.moved hW.alike hK, hD9⟩, hS.F eth⟩) hS.2.2 dX5_habitGives_78
      · replace hf := dg_f c6 hf
        refine lv_iconst (v := 1) hx hb dX5_habitGives_39 (by decide) ?_
        refine lv_goto (tgt := 44) hx hb dX5_habitGives_40 (by decide) ?_
        refine lv_istore (lv' := [(5, .int (1:Int32)), (4, .int x2), (3, .int x1), (0, .ref ht), (1, .int a1), (2, .int a2)]) hx hb dX5_habitGives_44 hl (by decide) rfl (fun ls hl => ?_)
        refine lv_iload hx hb dX5_habitGives_46 (lv_at hl 0 rfl) ?_
        refine lv_if_eq (tgt := 77) hx hb dX5_habitGives_48 (by decide) (fun c8 => absurd c8 (by decide)) (fun c8 => ?_)
        refine lv_aload_n hx hb dX5_habitGives_51 rfl (lv_at hl 3 rfl) ?_
        refine va_get (D := (dC, dI)) (ci := 4) (v := .int vt_spoken) (C := RX5) (T := TX5) (N := 9) hx hb hts hinX5 hown hK hP 0 rfl rfl 7 (by decide) hw0 (fun _ h9 => h9) rfl dX5_habitGives_52 ?_
        refine lv_iload_n hx hb dX5_habitGives_55 rfl (lv_at hl 4 rfl) ?_
        obtain ⟨x9, hx9, hf⟩ := dg_bind hf
        have hPc : va_P (dC, dI) vwCl [] H := hP.sub [] rfl
        have hDc : va_D A [] := hD.sub [] (by decide) rfl
        have hFc := va_free (wc := []) hD hS hA [] rfl
        refine va_calli (va_runS (As := [.int a1]) (rest := [.int vt_spoken]) ⟨hx, hb, hml, hown, hts⟩ (k_X5_dropsOf l dC dI cI cJ cZ H.size a1 N x9 hx9) (va_cwS 1 hts gX5_habitGives_X5_dropsOf rfl rfl rfl hd_X5_dropsOf ⟨Nat.le_of_ble_eq_true rfl, Nat.le_of_ble_eq_true rfl⟩) ⟨blind_pc, pre_pc hPc hK hDc⟩ rfl rfl hl.1 rfl (lv_room (Nat.le_of_ble_eq_true rfl)) dX5_habitGives_56 ⟨Nat.zero_le _, Nat.zero_le _⟩) hS (fun q _ h => hFc q h) hFc (fun r u t H1 locs eth hvm hw hB hz1 hk1 hS => ?_)
        obtain ⟨hP1, hK1, hD1⟩ := hB
        rw [eth] at hP1
        subst hw
        obtain ⟨hP, hD⟩ := va_join (wr := [(ht, .inr (4, [.ref ht_text, .ref ht_bench, .ref ht_acts, .ref ht_drawers, .ref ht_told, .ref ht_pagesOfTrial, .ref ht_kept, .int vt_spoken, .long vt_nowSeed]))]) (w1 := []) hP hD [] [0] rfl rfl (by decide) (by decide) hk1 hFc hP1 hD1
        clear hP1 hK1 hD1 hPc hDc hFc hk1 hz1 hvm eth
        generalize H1 = H at hP hS ⊢
        have hP : va_P (dC, dI) vwCl [(ht, .inr (4, [.ref ht_text, .ref ht_bench, .ref ht_acts, .ref ht_drawers, .ref ht_told, .ref ht_pagesOfTrial, .ref ht_kept, .int vt_spoken, .long vt_nowSeed]))] H := hP
        have hD : va_D A [(ht, .inr (4, [.ref ht_text, .ref ht_bench, .ref ht_acts, .ref ht_drawers, .ref ht_told, .ref ht_pagesOfTrial, .ref ht_kept, .int vt_spoken, .long vt_nowSeed]))] := hD
        refine lv_iload_n hx hb dX5_habitGives_59 rfl (lv_at hl 2 rfl) ?_
        refine lv_iload hx hb dX5_habitGives_60 (lv_at hl 1 rfl) ?_
        refine lv_iload_n hx hb dX5_habitGives_62 rfl (lv_at hl 4 rfl) ?_
        obtain ⟨x10, hx10, hf⟩ := dg_bind hf
        have hPc : va_P (dC, dI) vwCl [] H := hP.sub [] rfl
        have hDc : va_D A [] := hD.sub [] (by decide) rfl
        have hFc := va_free (wc := []) hD hS hA [] rfl
        refine va_calli (va_runS (As := [.int a1]) (rest := [.int x2, .int x1, .int x9, .int vt_spoken]) ⟨hx, hb, hml, hown, hts⟩ (k_X5_tiresOf l dC dI cI cJ cZ H.size a1 N x10 hx10) (va_cwS 1 hts gX5_habitGives_X5_tiresOf rfl rfl rfl hd_X5_tiresOf ⟨Nat.le_of_ble_eq_true rfl, Nat.le_of_ble_eq_true rfl⟩) ⟨blind_pc, pre_pc hPc hK hDc⟩ rfl rfl hl.1 rfl (lv_room (Nat.le_of_ble_eq_true rfl)) dX5_habitGives_63 ⟨Nat.zero_le _, Nat.zero_le _⟩) hS (fun q _ h => hFc q h) hFc (fun r u t H1 locs eth hvm hw hB hz1 hk1 hS => ?_)
        obtain ⟨hP1, hK1, hD1⟩ := hB
        rw [eth] at hP1
        subst hw
        obtain ⟨hP, hD⟩ := va_join (wr := [(ht, .inr (4, [.ref ht_text, .ref ht_bench, .ref ht_acts, .ref ht_drawers, .ref ht_told, .ref ht_pagesOfTrial, .ref ht_kept, .int vt_spoken, .long vt_nowSeed]))]) (w1 := []) hP hD [] [0] rfl rfl (by decide) (by decide) hk1 hFc hP1 hD1
        clear hP1 hK1 hD1 hPc hDc hFc hk1 hz1 hvm eth
        generalize H1 = H at hP hS ⊢
        have hP : va_P (dC, dI) vwCl [(ht, .inr (4, [.ref ht_text, .ref ht_bench, .ref ht_acts, .ref ht_drawers, .ref ht_told, .ref ht_pagesOfTrial, .ref ht_kept, .int vt_spoken, .long vt_nowSeed]))] H := hP
        have hD : va_D A [(ht, .inr (4, [.ref ht_text, .ref ht_bench, .ref ht_acts, .ref ht_drawers, .ref ht_told, .ref ht_pagesOfTrial, .ref ht_kept, .int vt_spoken, .long vt_nowSeed]))] := hD
        obtain ⟨x11, hx11, hf⟩ := dg_bind hf
        have hPc : va_P (dC, dI) vwCl [] H := hP.sub [] rfl
        have hDc : va_D A [] := hD.sub [] (by decide) rfl
        have hFc := va_free (wc := []) hD hS hA [] rfl
        refine va_calli (va_runS (As := [.int vt_spoken, .int x9, .int x1, .int x2, .int x10]) (rest := []) ⟨hx, hb, hml, hown, hts⟩ (k_X1_taken l dC dI cI cJ cZ H.size vt_spoken x9 x1 x2 x10 N x11 hx11) (va_cwS 5 hts gX5_habitGives_X1_taken rfl rfl rfl hd_X1_taken ⟨Nat.le_of_ble_eq_true rfl, Nat.le_of_ble_eq_true rfl⟩) ⟨blind_pc, pre_pc hPc hK hDc⟩ rfl rfl hl.1 rfl (lv_room (Nat.le_of_ble_eq_true rfl)) dX5_habitGives_66 ⟨Nat.zero_le _, Nat.zero_le _⟩) hS (fun q _ h => hFc q h) hFc (fun r u t H1 locs eth hvm hw hB hz1 hk1 hS => ?_)
        obtain ⟨hP1, hK1, hD1⟩ := hB
        rw [eth] at hP1
        subst hw
        obtain ⟨hP, hD⟩ := va_join (wr := [(ht, .inr (4, [.ref ht_text, .ref ht_bench, .ref ht_acts, .ref ht_drawers, .ref ht_told, .ref ht_pagesOfTrial, .ref ht_kept, .int vt_spoken, .long vt_nowSeed]))]) (w1 := []) hP hD [] [0] rfl rfl (by decide) (by decide) hk1 hFc hP1 hD1
        clear hP1 hK1 hD1 hPc hDc hFc hk1 hz1 hvm eth
        generalize H1 = H at hP hS ⊢
        have hP : va_P (dC, dI) vwCl [(ht, .inr (4, [.ref ht_text, .ref ht_bench, .ref ht_acts, .ref ht_drawers, .ref ht_told, .ref ht_pagesOfTrial, .ref ht_kept, .int vt_spoken, .long vt_nowSeed]))] H := hP
        have hD : va_D A [(ht, .inr (4, [.ref ht_text, .ref ht_bench, .ref ht_acts, .ref ht_drawers, .ref ht_told, .ref ht_pagesOfTrial, .ref ht_kept, .int vt_spoken, .long vt_nowSeed]))] := hD
        refine lv_iload_n hx hb dX5_habitGives_69 rfl (lv_at hl 5 rfl) ?_
        refine lv_icmp_ne (tgt := 77) hx hb dX5_habitGives_70 (by decide) (fun c12 => ?_) (fun c12 => ?_)
        · replace hf := dg_f c12 hf
          refine lv_iconst (v := 0) hx hb dX5_habitGives_77 (by decide) ?_
          have he := Option.some.inj hf
          have hP9 := hP
          have hD9 := hD
          exact W.zret (v := (0:Int32)) (ty := .boolean) hx hb hr (by decide) (fun t eth hW => ⟨⟨(0:Int32), (), rfl, he.symm, by rw [eth]; exact hP9, va_K.moved hW.alike hK, hD9⟩, hS.F eth⟩) hS.2.2 dX5_habitGives_78
        · replace hf := dg_t c12 hf
          refine lv_iconst (v := 1) hx hb dX5_habitGives_73 (by decide) ?_
          refine lv_goto (tgt := 78) hx hb dX5_habitGives_74 (by decide) ?_
          have he := Option.some.inj hf
          have hP9 := hP
          have hD9 := hD
          exact W.zret (v := (1:Int32)) (ty := .boolean) hx hb hr (by decide) (fun t eth hW => ⟨⟨(1:Int32), (), rfl, he.symm, by rw [eth]; exact hP9, va_K.moved hW.alike hK, hD9⟩, hS.F eth⟩) hS.2.2 dX5_habitGives_78
  · replace hf := dg_t c3 hf
    refine lv_iload hx hb dX5_habitGives_15 (lv_at hl 0 rfl) ?_
    refine lv_if_ne (tgt := 24) hx hb dX5_habitGives_17 (by decide) (fun c13 => ?_) (fun c13 => ?_)
    · replace hf := dg_f c13 hf
      refine lv_iconst (v := 0) hx hb dX5_habitGives_24 (by decide) ?_
      refine lv_goto (tgt := 44) hx hb dX5_habitGives_25 (by decide) ?_
      refine lv_istore (lv' := [(5, .int (0:Int32)), (4, .int x2), (3, .int x1), (0, .ref ht), (1, .int a1), (2, .int a2)]) hx hb dX5_habitGives_44 hl (by decide) rfl (fun ls hl => ?_)
      refine lv_iload hx hb dX5_habitGives_46 (lv_at hl 0 rfl) ?_
      refine lv_if_eq (tgt := 77) hx hb dX5_habitGives_48 (by decide) (fun c14 => ?_) (fun c14 => absurd (by decide) c14)
      refine lv_iconst (v := 0) hx hb dX5_habitGives_77 (by decide) ?_
      have he := Option.some.inj hf
      have hP9 := hP
      have hD9 := hD
      exact W.zret (v := (0:Int32)) (ty := .boolean) hx hb hr (by decide) (fun t eth hW => ⟨⟨(0:Int32), (), rfl, he.symm, by rw [eth]; exact hP9, va_K.moved hW.alike hK, hD9⟩, hS.F eth⟩) hS.2.2 dX5_habitGives_78
    · replace hf := dg_t c13 hf
      refine lv_iconst (v := 1) hx hb dX5_habitGives_20 (by decide) ?_
      refine lv_goto (tgt := 44) hx hb dX5_habitGives_21 (by decide) ?_
      refine lv_istore (lv' := [(5, .int (1:Int32)), (4, .int x2), (3, .int x1), (0, .ref ht), (1, .int a1), (2, .int a2)]) hx hb dX5_habitGives_44 hl (by decide) rfl (fun ls hl => ?_)
      refine lv_iload hx hb dX5_habitGives_46 (lv_at hl 0 rfl) ?_
      refine lv_if_eq (tgt := 77) hx hb dX5_habitGives_48 (by decide) (fun c15 => absurd c15 (by decide)) (fun c15 => ?_)
      refine lv_aload_n hx hb dX5_habitGives_51 rfl (lv_at hl 3 rfl) ?_
      refine va_get (D := (dC, dI)) (ci := 4) (v := .int vt_spoken) (C := RX5) (T := TX5) (N := 9) hx hb hts hinX5 hown hK hP 0 rfl rfl 7 (by decide) hw0 (fun _ h9 => h9) rfl dX5_habitGives_52 ?_
      refine lv_iload_n hx hb dX5_habitGives_55 rfl (lv_at hl 4 rfl) ?_
      obtain ⟨x16, hx16, hf⟩ := dg_bind hf
      have hPc : va_P (dC, dI) vwCl [] H := hP.sub [] rfl
      have hDc : va_D A [] := hD.sub [] (by decide) rfl
      have hFc := va_free (wc := []) hD hS hA [] rfl
      refine va_calli (va_runS (As := [.int a1]) (rest := [.int vt_spoken]) ⟨hx, hb, hml, hown, hts⟩ (k_X5_dropsOf l dC dI cI cJ cZ H.size a1 N x16 hx16) (va_cwS 1 hts gX5_habitGives_X5_dropsOf rfl rfl rfl hd_X5_dropsOf ⟨Nat.le_of_ble_eq_true rfl, Nat.le_of_ble_eq_true rfl⟩) ⟨blind_pc, pre_pc hPc hK hDc⟩ rfl rfl hl.1 rfl (lv_room (Nat.le_of_ble_eq_true rfl)) dX5_habitGives_56 ⟨Nat.zero_le _, Nat.zero_le _⟩) hS (fun q _ h => hFc q h) hFc (fun r u t H1 locs eth hvm hw hB hz1 hk1 hS => ?_)
      obtain ⟨hP1, hK1, hD1⟩ := hB
      rw [eth] at hP1
      subst hw
      obtain ⟨hP, hD⟩ := va_join (wr := [(ht, .inr (4, [.ref ht_text, .ref ht_bench, .ref ht_acts, .ref ht_drawers, .ref ht_told, .ref ht_pagesOfTrial, .ref ht_kept, .int vt_spoken, .long vt_nowSeed]))]) (w1 := []) hP hD [] [0] rfl rfl (by decide) (by decide) hk1 hFc hP1 hD1
      clear hP1 hK1 hD1 hPc hDc hFc hk1 hz1 hvm eth
      generalize H1 = H at hP hS ⊢
      have hP : va_P (dC, dI) vwCl [(ht, .inr (4, [.ref ht_text, .ref ht_bench, .ref ht_acts, .ref ht_drawers, .ref ht_told, .ref ht_pagesOfTrial, .ref ht_kept, .int vt_spoken, .long vt_nowSeed]))] H := hP
      have hD : va_D A [(ht, .inr (4, [.ref ht_text, .ref ht_bench, .ref ht_acts, .ref ht_drawers, .ref ht_told, .ref ht_pagesOfTrial, .ref ht_kept, .int vt_spoken, .long vt_nowSeed]))] := hD
      refine lv_iload_n hx hb dX5_habitGives_59 rfl (lv_at hl 2 rfl) ?_
      refine lv_iload hx hb dX5_habitGives_60 (lv_at hl 1 rfl) ?_
      refine lv_iload_n hx hb dX5_habitGives_62 rfl (lv_at hl 4 rfl) ?_
      obtain ⟨x17, hx17, hf⟩ := dg_bind hf
      have hPc : va_P (dC, dI) vwCl [] H := hP.sub [] rfl
      have hDc : va_D A [] := hD.sub [] (by decide) rfl
      have hFc := va_free (wc := []) hD hS hA [] rfl
      refine va_calli (va_runS (As := [.int a1]) (rest := [.int x2, .int x1, .int x16, .int vt_spoken]) ⟨hx, hb, hml, hown, hts⟩ (k_X5_tiresOf l dC dI cI cJ cZ H.size a1 N x17 hx17) (va_cwS 1 hts gX5_habitGives_X5_tiresOf rfl rfl rfl hd_X5_tiresOf ⟨Nat.le_of_ble_eq_true rfl, Nat.le_of_ble_eq_true rfl⟩) ⟨blind_pc, pre_pc hPc hK hDc⟩ rfl rfl hl.1 rfl (lv_room (Nat.le_of_ble_eq_true rfl)) dX5_habitGives_63 ⟨Nat.zero_le _, Nat.zero_le _⟩) hS (fun q _ h => hFc q h) hFc (fun r u t H1 locs eth hvm hw hB hz1 hk1 hS => ?_)
      obtain ⟨hP1, hK1, hD1⟩ := hB
      rw [eth] at hP1
      subst hw
      obtain ⟨hP, hD⟩ := va_join (wr := [(ht, .inr (4, [.ref ht_text, .ref ht_bench, .ref ht_acts, .ref ht_drawers, .ref ht_told, .ref ht_pagesOfTrial, .ref ht_kept, .int vt_spoken, .long vt_nowSeed]))]) (w1 := []) hP hD [] [0] rfl rfl (by decide) (by decide) hk1 hFc hP1 hD1
      clear hP1 hK1 hD1 hPc hDc hFc hk1 hz1 hvm eth
      generalize H1 = H at hP hS ⊢
      have hP : va_P (dC, dI) vwCl [(ht, .inr (4, [.ref ht_text, .ref ht_bench, .ref ht_acts, .ref ht_drawers, .ref ht_told, .ref ht_pagesOfTrial, .ref ht_kept, .int vt_spoken, .long vt_nowSeed]))] H := hP
      have hD : va_D A [(ht, .inr (4, [.ref ht_text, .ref ht_bench, .ref ht_acts, .ref ht_drawers, .ref ht_told, .ref ht_pagesOfTrial, .ref ht_kept, .int vt_spoken, .long vt_nowSeed]))] := hD
      obtain ⟨x18, hx18, hf⟩ := dg_bind hf
      have hPc : va_P (dC, dI) vwCl [] H := hP.sub [] rfl
      have hDc : va_D A [] := hD.sub [] (by decide) rfl
      have hFc := va_free (wc := []) hD hS hA [] rfl
      refine va_calli (va_runS (As := [.int vt_spoken, .int x16, .int x1, .int x2, .int x17]) (rest := []) ⟨hx, hb, hml, hown, hts⟩ (k_X1_taken l dC dI cI cJ cZ H.size vt_spoken x16 x1 x2 x17 N x18 hx18) (va_cwS 5 hts gX5_habitGives_X1_taken rfl rfl rfl hd_X1_taken ⟨Nat.le_of_ble_eq_true rfl, Nat.le_of_ble_eq_true rfl⟩) ⟨blind_pc, pre_pc hPc hK hDc⟩ rfl rfl hl.1 rfl (lv_room (Nat.le_of_ble_eq_true rfl)) dX5_habitGives_66 ⟨Nat.zero_le _, Nat.zero_le _⟩) hS (fun q _ h => hFc q h) hFc (fun r u t H1 locs eth hvm hw hB hz1 hk1 hS => ?_)
      obtain ⟨hP1, hK1, hD1⟩ := hB
      rw [eth] at hP1
      subst hw
      obtain ⟨hP, hD⟩ := va_join (wr := [(ht, .inr (4, [.ref ht_text, .ref ht_bench, .ref ht_acts, .ref ht_drawers, .ref ht_told, .ref ht_pagesOfTrial, .ref ht_kept, .int vt_spoken, .long vt_nowSeed]))]) (w1 := []) hP hD [] [0] rfl rfl (by decide) (by decide) hk1 hFc hP1 hD1
      clear hP1 hK1 hD1 hPc hDc hFc hk1 hz1 hvm eth
      generalize H1 = H at hP hS ⊢
      have hP : va_P (dC, dI) vwCl [(ht, .inr (4, [.ref ht_text, .ref ht_bench, .ref ht_acts, .ref ht_drawers, .ref ht_told, .ref ht_pagesOfTrial, .ref ht_kept, .int vt_spoken, .long vt_nowSeed]))] H := hP
      have hD : va_D A [(ht, .inr (4, [.ref ht_text, .ref ht_bench, .ref ht_acts, .ref ht_drawers, .ref ht_told, .ref ht_pagesOfTrial, .ref ht_kept, .int vt_spoken, .long vt_nowSeed]))] := hD
      refine lv_iload_n hx hb dX5_habitGives_69 rfl (lv_at hl 5 rfl) ?_
      refine lv_icmp_ne (tgt := 77) hx hb dX5_habitGives_70 (by decide) (fun c19 => ?_) (fun c19 => ?_)
      · replace hf := dg_f c19 hf
        refine lv_iconst (v := 0) hx hb dX5_habitGives_77 (by decide) ?_
        have he := Option.some.inj hf
        have hP9 := hP
        have hD9 := hD
        exact W.zret (v := (0:Int32)) (ty := .boolean) hx hb hr (by decide) (fun t eth hW => ⟨⟨(0:Int32), (), rfl, he.symm, by rw [eth]; exact hP9, va_K.moved hW.alike hK, hD9⟩, hS.F eth⟩) hS.2.2 dX5_habitGives_78
      · replace hf := dg_t c19 hf
        refine lv_iconst (v := 1) hx hb dX5_habitGives_73 (by decide) ?_
        refine lv_goto (tgt := 78) hx hb dX5_habitGives_74 (by decide) ?_
        have he := Option.some.inj hf
        have hP9 := hP
        have hD9 := hD
        exact W.zret (v := (1:Int32)) (ty := .boolean) hx hb hr (by decide) (fun t eth hW => ⟨⟨(1:Int32), (), rfl, he.symm, by rw [eth]; exact hP9, va_K.moved hW.alike hK, hD9⟩, hS.F eth⟩) hS.2.2 dX5_habitGives_78
theorem hd_X5_habits : yX5_habits.cls = RX5 ∧ yX5_habits.cls ≠ "java/lang/invoke/MethodHandle" ∧ yX5_habits.cls ≠ "java/lang/invoke/VarHandle" ∧ (parseMethodDescriptor yX5_habits.desc).map (fun d => d.parameters.length) = some 1 := by decide +kernel
abbrev rm_X5_habits : Room := { frames := 3, cells := 0, slots := 0, locals := 76 }
abbrev q_X5_habits (dC : Nat → ClassId) (dI : Nat → Nat → Nat) (cI cJ cZ : ClassId) (ht ht_text ht_bench ht_acts ht_drawers ht_told ht_pagesOfTrial ht_kept ht_bench_drops ht_bench_from ht_bench_to ht_bench_tires ht_bench_copies ht_bench_pages : Nat) (vt_spoken : Int32) (vt_nowSeed : Int64) (vt_bench_size : Int32) (vt_told : Nat → Int32) (R : Int32) (A : Nat → Prop) : Array Value → State → Outcome → State → Prop := va_Qi (fun (r : Int32) (_ : Unit) => R = r) (fun (u : Unit) (t : State) => va_P (dC, dI) vwCl [(ht, .inr (4, [.ref ht_text, .ref ht_bench, .ref ht_acts, .ref ht_drawers, .ref ht_told, .ref ht_pagesOfTrial, .ref ht_kept, .int vt_spoken, .long vt_nowSeed])), (ht_bench, .inr (1, [.ref ht_bench_drops, .ref ht_bench_from, .ref ht_bench_to, .ref ht_bench_tires, .ref ht_bench_copies, .ref ht_bench_pages, .int vt_bench_size])), (ht_told, .inl (cI, 4, .inl vt_told))] t.heap ∧ va_K (dC, dI) vwCl [(cI, .int), (cJ, .long), (cZ, .boolean)] t ∧ va_D A [(ht, .inr (4, [.ref ht_text, .ref ht_bench, .ref ht_acts, .ref ht_drawers, .ref ht_told, .ref ht_pagesOfTrial, .ref ht_kept, .int vt_spoken, .long vt_nowSeed])), (ht_bench, .inr (1, [.ref ht_bench_drops, .ref ht_bench_from, .ref ht_bench_to, .ref ht_bench_tires, .ref ht_bench_copies, .ref ht_bench_pages, .int vt_bench_size])), (ht_told, .inl (cI, 4, .inl vt_told))]) A
set_option maxHeartbeats 4000000 in
set_option maxRecDepth 100000 in
theorem k_X5_habits (l : Launch) (dC : Nat → ClassId) (dI : Nat → Nat → Nat) (cI cJ cZ : ClassId) (sz : Nat) (ht ht_text ht_bench ht_acts ht_drawers ht_told ht_pagesOfTrial ht_kept ht_bench_drops ht_bench_from ht_bench_to ht_bench_tires ht_bench_copies ht_bench_pages : Nat) (a1 : Int32) (vt_spoken : Int32) (vt_nowSeed : Int64) (vt_bench_size : Int32) (vt_told : Nat → Int32) (N : Nat) (R : Int32) (hf : f_X5_habits N a1 vt_spoken vt_bench_size vt_told = some R) : Met l yX5_habits wsX5_habits (rm_X5_habits) (va_Pc [.ref ht, .int a1] (fun U => U.heap.size = sz ∧ va_P (dC, dI) vwCl [(ht, .inr (4, [.ref ht_text, .ref ht_bench, .ref ht_acts, .ref ht_drawers, .ref ht_told, .ref ht_pagesOfTrial, .ref ht_kept, .int vt_spoken, .long vt_nowSeed])), (ht_bench, .inr (1, [.ref ht_bench_drops, .ref ht_bench_from, .ref ht_bench_to, .ref ht_bench_tires, .ref ht_bench_copies, .ref ht_bench_pages, .int vt_bench_size])), (ht_told, .inl (cI, 4, .inl vt_told))] U.heap ∧ va_K (dC, dI) vwCl [(cI, .int), (cJ, .long), (cZ, .boolean)] U ∧ va_D (fun _ => True) [(ht, .inr (4, [.ref ht_text, .ref ht_bench, .ref ht_acts, .ref ht_drawers, .ref ht_told, .ref ht_pagesOfTrial, .ref ht_kept, .int vt_spoken, .long vt_nowSeed])), (ht_bench, .inr (1, [.ref ht_bench_drops, .ref ht_bench_from, .ref ht_bench_to, .ref ht_bench_tires, .ref ht_bench_copies, .ref ht_bench_pages, .int vt_bench_size])), (ht_told, .inl (cI, 4, .inl vt_told))])) (q_X5_habits dC dI cI cJ cZ ht ht_text ht_bench ht_acts ht_drawers ht_told ht_pagesOfTrial ht_kept ht_bench_drops ht_bench_from ht_bench_to ht_bench_tires ht_bench_copies ht_bench_pages vt_spoken vt_nowSeed vt_bench_size vt_told R (va_A [(ht, .inr (4, [.ref ht_text, .ref ht_bench, .ref ht_acts, .ref ht_drawers, .ref ht_told, .ref ht_pagesOfTrial, .ref ht_kept, .int vt_spoken, .long vt_nowSeed])), (ht_bench, .inr (1, [.ref ht_bench_drops, .ref ht_bench_from, .ref ht_bench_to, .ref ht_bench_tires, .ref ht_bench_copies, .ref ht_bench_pages, .int vt_bench_size])), (ht_told, .inl (cI, 4, .inl vt_told))] sz)) 0 0 (va_A [(ht, .inr (4, [.ref ht_text, .ref ht_bench, .ref ht_acts, .ref ht_drawers, .ref ht_told, .ref ht_pagesOfTrial, .ref ht_kept, .int vt_spoken, .long vt_nowSeed])), (ht_bench, .inr (1, [.ref ht_bench_drops, .ref ht_bench_from, .ref ht_bench_to, .ref ht_bench_tires, .ref ht_bench_copies, .ref ht_bench_pages, .int vt_bench_size])), (ht_told, .inl (cI, 4, .inl vt_told))] sz) := by
  refine Met.ofW (cc := cX5_habits) (maxL := 4) (ret := (some .int)) (by decide) rfl ?_
  intro p e s m args below meth c s₁ B hml hv
  obtain ⟨rfl, hsz, hP, hK, hD0⟩ := hv
  have hx := B.exec
  have hb := B.bytes
  have hr := B.returns
  have hts := atoms_spec (ws := wsX5_habits) B.pre
  have hown : s.vm.findClass RX5 = some m.cls := findClass_of_methodNamed B.named
  have hlocks := B.notSynchronized
  clear B
  subst hsz
  have hw0 := hts (.fieldLink RX5 19 "ShorthandCourt" "bench" "LShorthandCourt$Bench;") (by decide +kernel)
  have hw1 := hts (.fieldLink RX5 37 "ShorthandCourt" "told" "[I") (by decide +kernel)
  have hinX5 : ∀ w ∈ u_ws RX5 TX5 9, w ∈ wsX5_habits := by decide +kernel
  have hD := hD0.self (sz := s.heap.size)
  clear hD0
  generalize hAe : va_A [(ht, .inr (4, [.ref ht_text, .ref ht_bench, .ref ht_acts, .ref ht_drawers, .ref ht_told, .ref ht_pagesOfTrial, .ref ht_kept, .int vt_spoken, .long vt_nowSeed])), (ht_bench, .inr (1, [.ref ht_bench_drops, .ref ht_bench_from, .ref ht_bench_to, .ref ht_bench_tires, .ref ht_bench_copies, .ref ht_bench_pages, .int vt_bench_size])), (ht_told, .inl (cI, 4, .inl vt_told))] s.heap.size = A at hD ⊢
  have hA : ∀ q : Nat, s.heap.size ≤ q → A q := fun q h => by rw [← hAe]; exact Or.inr h
  clear hAe
  have hS : va_S A s.heap s.heap [] := va_S.rf
  have hl := lv_entry ([.ref ht, .int a1]) (n := 4) (Nat.le_of_ble_eq_true rfl)
  rw [lg_entry_eq]
  generalize (lg_sl ([.ref ht, .int a1]) ++ List.replicate (4 - (lg_sl ([.ref ht, .int a1])).length) Slot.unset).toArray = ls at hl ⊢
  have hl : lv_has ls 4 [(0, .ref ht), (1, .int a1)] := hl
  unfold f_X5_habits at hf
  refine lv_aload_n hx hb dX5_habits_0 rfl (lv_at hl 0 rfl) ?_
  refine va_get (D := (dC, dI)) (ci := 4) (v := .ref ht_bench) (C := RX5) (T := TX5) (N := 9) hx hb hts hinX5 hown hK hP 0 rfl rfl 1 (by decide) hw0 (fun _ h9 => h9) rfl dX5_habits_1 ?_
  refine lv_iload_n hx hb dX5_habits_4 rfl (lv_at hl 1 rfl) ?_
  obtain ⟨x1, hx1, hf⟩ := dg_bind hf
  have hPc : va_P (dC, dI) vwCl [(ht_bench, .inr (1, [.ref ht_bench_drops, .ref ht_bench_from, .ref ht_bench_to, .ref ht_bench_tires, .ref ht_bench_copies, .ref ht_bench_pages, .int vt_bench_size]))] s.heap := hP.sub [1] rfl
  have hDc : va_D A [(ht_bench, .inr (1, [.ref ht_bench_drops, .ref ht_bench_from, .ref ht_bench_to, .ref ht_bench_tires, .ref ht_bench_copies, .ref ht_bench_pages, .int vt_bench_size]))] := hD.sub [1] (by decide) rfl
  have hFc := va_free (wc := [(ht_bench, .inr (1, [.ref ht_bench_drops, .ref ht_bench_from, .ref ht_bench_to, .ref ht_bench_tires, .ref ht_bench_copies, .ref ht_bench_pages, .int vt_bench_size]))]) hD hS hA [1] rfl
  refine va_calli (va_runV (As := [.int a1]) (rest := []) ⟨hx, hb, hml, hown, hts⟩ (k_X1_has l dC dI cI cJ cZ s.heap.size ht_bench ht_bench_drops ht_bench_from ht_bench_to ht_bench_tires ht_bench_copies ht_bench_pages a1 vt_bench_size N x1 hx1) (cwV 1 hts gX5_habits_X1_has rfl rfl rfl hd_X1_has ⟨Nat.le_of_ble_eq_true rfl, Nat.le_of_ble_eq_true rfl⟩) ⟨blind_pc, va_recv hK hPc (ci := 1) (q0 := 0) rfl rfl, pre_pc hPc hK hDc⟩ rfl rfl hl.1 rfl (lv_room (Nat.le_of_ble_eq_true rfl)) dX5_habits_5 ⟨Nat.zero_le _, Nat.zero_le _⟩) hS (fun q _ h => hFc q h) hFc (fun r u t H1 locs eth hvm hw hB hz1 hk1 hS => ?_)
  obtain ⟨hP1, hK1, hD1⟩ := hB
  rw [eth] at hP1
  subst hw
  obtain ⟨hP, hD⟩ := va_join (wr := [(ht, .inr (4, [.ref ht_text, .ref ht_bench, .ref ht_acts, .ref ht_drawers, .ref ht_told, .ref ht_pagesOfTrial, .ref ht_kept, .int vt_spoken, .long vt_nowSeed])), (ht_told, .inl (cI, 4, .inl vt_told))]) (w1 := [(ht_bench, .inr (1, [.ref ht_bench_drops, .ref ht_bench_from, .ref ht_bench_to, .ref ht_bench_tires, .ref ht_bench_copies, .ref ht_bench_pages, .int vt_bench_size]))]) hP hD [1] [0, 2] rfl rfl (by decide) (by decide) hk1 hFc hP1 hD1
  clear hP1 hK1 hD1 hPc hDc hFc hk1 hz1 hvm eth
  generalize H1 = H at hP hS ⊢
  have hP : va_P (dC, dI) vwCl [(ht, .inr (4, [.ref ht_text, .ref ht_bench, .ref ht_acts, .ref ht_drawers, .ref ht_told, .ref ht_pagesOfTrial, .ref ht_kept, .int vt_spoken, .long vt_nowSeed])), (ht_told, .inl (cI, 4, .inl vt_told)), (ht_bench, .inr (1, [.ref ht_bench_drops, .ref ht_bench_from, .ref ht_bench_to, .ref ht_bench_tires, .ref ht_bench_copies, .ref ht_bench_pages, .int vt_bench_size]))] H := hP
  have hD : va_D A [(ht, .inr (4, [.ref ht_text, .ref ht_bench, .ref ht_acts, .ref ht_drawers, .ref ht_told, .ref ht_pagesOfTrial, .ref ht_kept, .int vt_spoken, .long vt_nowSeed])), (ht_told, .inl (cI, 4, .inl vt_told)), (ht_bench, .inr (1, [.ref ht_bench_drops, .ref ht_bench_from, .ref ht_bench_to, .ref ht_bench_tires, .ref ht_bench_copies, .ref ht_bench_pages, .int vt_bench_size]))] := hD
  refine lv_if_ne (tgt := 13) hx hb dX5_habits_8 (by decide) (fun c2 => ?_) (fun c2 => ?_)
  · replace hf := dg_f c2 hf
    refine lv_aload_n hx hb dX5_habits_13 rfl (lv_at hl 0 rfl) ?_
    refine va_get (D := (dC, dI)) (ci := 4) (v := .ref ht_told) (C := RX5) (T := TX5) (N := 9) hx hb hts hinX5 hown hK hP 0 rfl rfl 4 (by decide) hw1 (fun _ h9 => h9) rfl dX5_habits_14 ?_
    refine lv_iload_n hx hb dX5_habits_17 rfl (lv_at hl 1 rfl) ?_
    obtain ⟨hi3, hf⟩ := dg_ix hf
    refine va_iald hx hb hK hP 1 0 rfl rfl hi3 dX5_habits_18 ?_
    refine lv_if_ne (tgt := 25) hx hb dX5_habits_19 (by decide) (fun c4 => ?_) (fun c4 => ?_)
    · replace hf := dg_f c4 hf
      refine lv_iconst (v := 0) hx hb dX5_habits_25 (by decide) ?_
      refine lv_istore_n (lv' := [(2, .int (0:Int32)), (0, .ref ht), (1, .int a1)]) hx hb dX5_habits_26 rfl hl (by decide) rfl (fun ls hl => ?_)
      refine lv_iconst (v := 0) hx hb dX5_habits_27 (by decide) ?_
      refine lv_istore_n (lv' := [(3, .int (0:Int32)), (2, .int (0:Int32)), (0, .ref ht), (1, .int a1)]) hx hb dX5_habits_28 rfl hl (by decide) rfl (fun ls hl => ?_)
      have ex29 : ∀ (z2_29 : Int32) (z3_29 : Int32) (H : Heap) (locs : List Loc) (ls : Array Slot), va_P (dC, dI) vwCl [(ht, .inr (4, [.ref ht_text, .ref ht_bench, .ref ht_acts, .ref ht_drawers, .ref ht_told, .ref ht_pagesOfTrial, .ref ht_kept, .int vt_spoken, .long vt_nowSeed])), (ht_told, .inl (cI, 4, .inl vt_told)), (ht_bench, .inr (1, [.ref ht_bench_drops, .ref ht_bench_from, .ref ht_bench_to, .ref ht_bench_tires, .ref ht_bench_copies, .ref ht_bench_pages, .int vt_bench_size]))] H → va_D A [(ht, .inr (4, [.ref ht_text, .ref ht_bench, .ref ht_acts, .ref ht_drawers, .ref ht_told, .ref ht_pagesOfTrial, .ref ht_kept, .int vt_spoken, .long vt_nowSeed])), (ht_told, .inl (cI, 4, .inl vt_told)), (ht_bench, .inr (1, [.ref ht_bench_drops, .ref ht_bench_from, .ref ht_bench_to, .ref ht_bench_tires, .ref ht_bench_copies, .ref ht_bench_pages, .int vt_bench_size]))] → va_S A s.heap H locs → lv_has ls 4 [(3, .int z3_29), (2, .int z2_29), (0, .ref ht), (1, .int a1)] → (some z2_29) = some R → W p l e (rm_X5_habits) s m ([.ref ht, .int a1] : List Value).toArray below meth c H locs 0 0 (MQ below (q_X5_habits dC dI cI cJ cZ ht ht_text ht_bench ht_acts ht_drawers ht_told ht_pagesOfTrial ht_kept ht_bench_drops ht_bench_from ht_bench_to ht_bench_tires ht_bench_copies ht_bench_pages vt_spoken vt_nowSeed vt_bench_size vt_told R A) ([.ref ht, .int a1] : List Value).toArray s 0 0 A) (F0 m 59 ls []) := by
        intro z2_29 z3_29 H locs ls hP hD hS hl hf
        refine lv_iload_n hx hb dX5_habits_59 rfl (lv_at hl 1 rfl) ?_
        have he := Option.some.inj hf
        have hP9 := (hP.sub (ws' := [(ht, .inr (4, [.ref ht_text, .ref ht_bench, .ref ht_acts, .ref ht_drawers, .ref ht_told, .ref ht_pagesOfTrial, .ref ht_kept, .int vt_spoken, .long vt_nowSeed])), (ht_bench, .inr (1, [.ref ht_bench_drops, .ref ht_bench_from, .ref ht_bench_to, .ref ht_bench_tires, .ref ht_bench_copies, .ref ht_bench_pages, .int vt_bench_size])), (ht_told, .inl (cI, 4, .inl vt_told))]) [0, 2, 1] rfl)
        have hD9 := (hD.sub (ws' := [(ht, .inr (4, [.ref ht_text, .ref ht_bench, .ref ht_acts, .ref ht_drawers, .ref ht_told, .ref ht_pagesOfTrial, .ref ht_kept, .int vt_spoken, .long vt_nowSeed])), (ht_bench, .inr (1, [.ref ht_bench_drops, .ref ht_bench_from, .ref ht_bench_to, .ref ht_bench_tires, .ref ht_bench_copies, .ref ht_bench_pages, .int vt_bench_size])), (ht_told, .inl (cI, 4, .inl vt_told))]) [0, 2, 1] (by decide) rfl)
        exact W.iret (v := z2_29) hx hb hr (fun t eth hW => ⟨⟨z2_29, (), rfl, he.symm, by rw [eth]; exact hP9, va_K.moved hW.alike hK, hD9⟩, hS.F eth⟩) hS.2.2 dX5_habits_60
      have lp29 : ∀ (n29 : Nat) (y2_29 : Int32) (y3_29 : Int32) (H : Heap) (locs : List Loc) (ls : Array Slot), va_P (dC, dI) vwCl [(ht, .inr (4, [.ref ht_text, .ref ht_bench, .ref ht_acts, .ref ht_drawers, .ref ht_told, .ref ht_pagesOfTrial, .ref ht_kept, .int vt_spoken, .long vt_nowSeed])), (ht_told, .inl (cI, 4, .inl vt_told)), (ht_bench, .inr (1, [.ref ht_bench_drops, .ref ht_bench_from, .ref ht_bench_to, .ref ht_bench_tires, .ref ht_bench_copies, .ref ht_bench_pages, .int vt_bench_size]))] H → va_D A [(ht, .inr (4, [.ref ht_text, .ref ht_bench, .ref ht_acts, .ref ht_drawers, .ref ht_told, .ref ht_pagesOfTrial, .ref ht_kept, .int vt_spoken, .long vt_nowSeed])), (ht_told, .inl (cI, 4, .inl vt_told)), (ht_bench, .inr (1, [.ref ht_bench_drops, .ref ht_bench_from, .ref ht_bench_to, .ref ht_bench_tires, .ref ht_bench_copies, .ref ht_bench_pages, .int vt_bench_size]))] → va_S A s.heap H locs → lv_has ls 4 [(3, .int y3_29), (2, .int y2_29), (0, .ref ht), (1, .int a1)] → f_X5_habits_29 N a1 vt_spoken vt_told (fun z2_29 z3_29 => some z2_29) n29 y2_29 y3_29 = some R → W p l e (rm_X5_habits) s m ([.ref ht, .int a1] : List Value).toArray below meth c H locs 0 0 (MQ below (q_X5_habits dC dI cI cJ cZ ht ht_text ht_bench ht_acts ht_drawers ht_told ht_pagesOfTrial ht_kept ht_bench_drops ht_bench_from ht_bench_to ht_bench_tires ht_bench_copies ht_bench_pages vt_spoken vt_nowSeed vt_bench_size vt_told R A) ([.ref ht, .int a1] : List Value).toArray s 0 0 A) (F0 m 29 ls []) := by
        intro n29
        induction n29 with
        | zero => intro y2_29 y3_29 H locs ls hP hD hS hl hf; rw [f_X5_habits_29] at hf; cases hf
        | succ n29 ih29 =>
          intro y2_29 y3_29 H locs ls hP hD hS hl hf
          rw [f_X5_habits_29] at hf
          refine lv_iload_n hx hb dX5_habits_29 rfl (lv_at hl 0 rfl) ?_
          refine lv_sipush (v := 1250) hx hb dX5_habits_30 (by decide) ?_
          refine lv_icmp_ge (tgt := 59) hx hb dX5_habits_33 (by decide) (fun c5 => ?_) (fun c5 => ?_)
          · replace hf := dg_t c5 hf
            exact ex29 y2_29 y3_29 _ _ _ hP hD hS (lv_sub hl [0, 1, 2, 3] rfl) hf
          · replace hf := dg_f c5 hf
            refine lv_aload_n hx hb dX5_habits_36 rfl (lv_at hl 2 rfl) ?_
            refine lv_iload_n hx hb dX5_habits_37 rfl (lv_at hl 0 rfl) ?_
            refine lv_aload_n hx hb dX5_habits_38 rfl (lv_at hl 2 rfl) ?_
            refine va_get (D := (dC, dI)) (ci := 4) (v := .ref ht_told) (C := RX5) (T := TX5) (N := 9) hx hb hts hinX5 hown hK hP 0 rfl rfl 4 (by decide) hw1 (fun _ h9 => h9) rfl dX5_habits_39 ?_
            refine lv_iload_n hx hb dX5_habits_42 rfl (lv_at hl 3 rfl) ?_
            obtain ⟨hi6, hf⟩ := dg_ix hf
            refine va_iald hx hb hK hP 1 0 rfl rfl hi6 dX5_habits_43 ?_
            obtain ⟨x7, hx7, hf⟩ := dg_bind hf
            have hPc : va_P (dC, dI) vwCl [(ht, .inr (4, [.ref ht_text, .ref ht_bench, .ref ht_acts, .ref ht_drawers, .ref ht_told, .ref ht_pagesOfTrial, .ref ht_kept, .int vt_spoken, .long vt_nowSeed]))] H := hP.sub [0] rfl
            have hDc : va_D A [(ht, .inr (4, [.ref ht_text, .ref ht_bench, .ref ht_acts, .ref ht_drawers, .ref ht_told, .ref ht_pagesOfTrial, .ref ht_kept, .int vt_spoken, .long vt_nowSeed]))] := hD.sub [0] (by decide) rfl
            have hFc := va_free (wc := [(ht, .inr (4, [.ref ht_text, .ref ht_bench, .ref ht_acts, .ref ht_drawers, .ref ht_told, .ref ht_pagesOfTrial, .ref ht_kept, .int vt_spoken, .long vt_nowSeed]))]) hD hS hA [0] rfl
            refine va_calli (va_runV (As := [.int y3_29, .int (vt_told a1.toNatClampNeg)]) (rest := []) ⟨hx, hb, hml, hown, hts⟩ (k_X5_habitGives l dC dI cI cJ cZ H.size ht ht_text ht_bench ht_acts ht_drawers ht_told ht_pagesOfTrial ht_kept y3_29 (vt_told a1.toNatClampNeg) vt_spoken vt_nowSeed N x7 hx7) (cwV 2 hts gX5_habits_X5_habitGives rfl rfl rfl hd_X5_habitGives ⟨Nat.le_of_ble_eq_true rfl, Nat.le_of_ble_eq_true rfl⟩) ⟨blind_pc, va_recv hK hPc (ci := 4) (q0 := 0) rfl rfl, pre_pc hPc hK hDc⟩ rfl rfl hl.1 rfl (lv_room (Nat.le_of_ble_eq_true rfl)) dX5_habits_44 ⟨Nat.zero_le _, Nat.zero_le _⟩) hS (fun q _ h => hFc q h) hFc (fun r u t H1 locs eth hvm hw hB hz1 hk1 hS => ?_)
            obtain ⟨hP1, hK1, hD1⟩ := hB
            rw [eth] at hP1
            subst hw
            obtain ⟨hP, hD⟩ := va_join (wr := [(ht_told, .inl (cI, 4, .inl vt_told)), (ht_bench, .inr (1, [.ref ht_bench_drops, .ref ht_bench_from, .ref ht_bench_to, .ref ht_bench_tires, .ref ht_bench_copies, .ref ht_bench_pages, .int vt_bench_size]))]) (w1 := [(ht, .inr (4, [.ref ht_text, .ref ht_bench, .ref ht_acts, .ref ht_drawers, .ref ht_told, .ref ht_pagesOfTrial, .ref ht_kept, .int vt_spoken, .long vt_nowSeed]))]) hP hD [0] [1, 2] rfl rfl (by decide) (by decide) hk1 hFc hP1 hD1
            clear hP1 hK1 hD1 hPc hDc hFc hk1 hz1 hvm eth
            generalize H1 = H at hP hS ⊢
            have hP : va_P (dC, dI) vwCl [(ht_told, .inl (cI, 4, .inl vt_told)), (ht_bench, .inr (1, [.ref ht_bench_drops, .ref ht_bench_from, .ref ht_bench_to, .ref ht_bench_tires, .ref ht_bench_copies, .ref ht_bench_pages, .int vt_bench_size])), (ht, .inr (4, [.ref ht_text, .ref ht_bench, .ref ht_acts, .ref ht_drawers, .ref ht_told, .ref ht_pagesOfTrial, .ref ht_kept, .int vt_spoken, .long vt_nowSeed]))] H := hP
            have hD : va_D A [(ht_told, .inl (cI, 4, .inl vt_told)), (ht_bench, .inr (1, [.ref ht_bench_drops, .ref ht_bench_from, .ref ht_bench_to, .ref ht_bench_tires, .ref ht_bench_copies, .ref ht_bench_pages, .int vt_bench_size])), (ht, .inr (4, [.ref ht_text, .ref ht_bench, .ref ht_acts, .ref ht_drawers, .ref ht_told, .ref ht_pagesOfTrial, .ref ht_kept, .int vt_spoken, .long vt_nowSeed]))] := hD
            refine lv_if_eq (tgt := 53) hx hb dX5_habits_47 (by decide) (fun c8 => ?_) (fun c8 => ?_)
            · replace hf := dg_t c8 hf
              refine lv_iinc (v := (y3_29 + (1:Int32))) (lv' := [(3, .int (y3_29 + (1:Int32))), (2, .int y2_29), (0, .ref ht), (1, .int a1)]) hx hb dX5_habits_53 hl (k := 0) rfl (by first | rfl | decide) (by decide) rfl (fun ls hl => ?_)
              refine lv_goto (tgt := 29) hx hb dX5_habits_56 (by decide) ?_
              exact ih29 y2_29 (y3_29 + (1:Int32)) _ _ _ (hP.sub (ws' := [(ht, .inr (4, [.ref ht_text, .ref ht_bench, .ref ht_acts, .ref ht_drawers, .ref ht_told, .ref ht_pagesOfTrial, .ref ht_kept, .int vt_spoken, .long vt_nowSeed])), (ht_told, .inl (cI, 4, .inl vt_told)), (ht_bench, .inr (1, [.ref ht_bench_drops, .ref ht_bench_from, .ref ht_bench_to, .ref ht_bench_tires, .ref ht_bench_copies, .ref ht_bench_pages, .int vt_bench_size]))]) [2, 0, 1] rfl) (hD.sub (ws' := [(ht, .inr (4, [.ref ht_text, .ref ht_bench, .ref ht_acts, .ref ht_drawers, .ref ht_told, .ref ht_pagesOfTrial, .ref ht_kept, .int vt_spoken, .long vt_nowSeed])), (ht_told, .inl (cI, 4, .inl vt_told)), (ht_bench, .inr (1, [.ref ht_bench_drops, .ref ht_bench_from, .ref ht_bench_to, .ref ht_bench_tires, .ref ht_bench_copies, .ref ht_bench_pages, .int vt_bench_size]))]) [2, 0, 1] (by decide) rfl) hS (lv_sub hl [0, 1, 2, 3] rfl) hf
            · replace hf := dg_f c8 hf
              refine lv_iinc (v := (y2_29 + (1:Int32))) (lv' := [(2, .int (y2_29 + (1:Int32))), (3, .int y3_29), (0, .ref ht), (1, .int a1)]) hx hb dX5_habits_50 hl (k := 1) rfl (by first | rfl | decide) (by decide) rfl (fun ls hl => ?_)
              refine lv_iinc (v := (y3_29 + (1:Int32))) (lv' := [(3, .int (y3_29 + (1:Int32))), (2, .int (y2_29 + (1:Int32))), (0, .ref ht), (1, .int a1)]) hx hb dX5_habits_53 hl (k := 1) rfl (by first | rfl | decide) (by decide) rfl (fun ls hl => ?_)
              refine lv_goto (tgt := 29) hx hb dX5_habits_56 (by decide) ?_
              exact ih29 (y2_29 + (1:Int32)) (y3_29 + (1:Int32)) _ _ _ (hP.sub (ws' := [(ht, .inr (4, [.ref ht_text, .ref ht_bench, .ref ht_acts, .ref ht_drawers, .ref ht_told, .ref ht_pagesOfTrial, .ref ht_kept, .int vt_spoken, .long vt_nowSeed])), (ht_told, .inl (cI, 4, .inl vt_told)), (ht_bench, .inr (1, [.ref ht_bench_drops, .ref ht_bench_from, .ref ht_bench_to, .ref ht_bench_tires, .ref ht_bench_copies, .ref ht_bench_pages, .int vt_bench_size]))]) [2, 0, 1] rfl) (hD.sub (ws' := [(ht, .inr (4, [.ref ht_text, .ref ht_bench, .ref ht_acts, .ref ht_drawers, .ref ht_told, .ref ht_pagesOfTrial, .ref ht_kept, .int vt_spoken, .long vt_nowSeed])), (ht_told, .inl (cI, 4, .inl vt_told)), (ht_bench, .inr (1, [.ref ht_bench_drops, .ref ht_bench_from, .ref ht_bench_to, .ref ht_bench_tires, .ref ht_bench_copies, .ref ht_bench_pages, .int vt_bench_size]))]) [2, 0, 1] (by decide) rfl) hS (lv_sub hl [0, 1, 2, 3] rfl) hf
      exact lp29 N (0:Int32) (0:Int32) _ _ _ hP hD hS hl hf
    · replace hf := dg_t c4 hf
      refine lv_bipush (v := -3) hx hb dX5_habits_22 (by decide) ?_
      have he := Option.some.inj hf
      have hP9 := (hP.sub (ws' := [(ht, .inr (4, [.ref ht_text, .ref ht_bench, .ref ht_acts, .ref ht_drawers, .ref ht_told, .ref ht_pagesOfTrial, .ref ht_kept, .int vt_spoken, .long vt_nowSeed])), (ht_bench, .inr (1, [.ref ht_bench_drops, .ref ht_bench_from, .ref ht_bench_to, .ref ht_bench_tires, .ref ht_bench_copies, .ref ht_bench_pages, .int vt_bench_size])), (ht_told, .inl (cI, 4, .inl vt_told))]) [0, 2, 1] rfl)
      have hD9 := (hD.sub (ws' := [(ht, .inr (4, [.ref ht_text, .ref ht_bench, .ref ht_acts, .ref ht_drawers, .ref ht_told, .ref ht_pagesOfTrial, .ref ht_kept, .int vt_spoken, .long vt_nowSeed])), (ht_bench, .inr (1, [.ref ht_bench_drops, .ref ht_bench_from, .ref ht_bench_to, .ref ht_bench_tires, .ref ht_bench_copies, .ref ht_bench_pages, .int vt_bench_size])), (ht_told, .inl (cI, 4, .inl vt_told))]) [0, 2, 1] (by decide) rfl)
      exact W.iret (v := (-3:Int32)) hx hb hr (fun t eth hW => ⟨⟨(-3:Int32), (), rfl, he.symm, by rw [eth]; exact hP9, va_K.moved hW.alike hK, hD9⟩, hS.F eth⟩) hS.2.2 dX5_habits_24
  · replace hf := dg_t c2 hf
    refine lv_iconst (v := -1) hx hb dX5_habits_11 (by decide) ?_
    have he := Option.some.inj hf
    have hP9 := (hP.sub (ws' := [(ht, .inr (4, [.ref ht_text, .ref ht_bench, .ref ht_acts, .ref ht_drawers, .ref ht_told, .ref ht_pagesOfTrial, .ref ht_kept, .int vt_spoken, .long vt_nowSeed])), (ht_bench, .inr (1, [.ref ht_bench_drops, .ref ht_bench_from, .ref ht_bench_to, .ref ht_bench_tires, .ref ht_bench_copies, .ref ht_bench_pages, .int vt_bench_size])), (ht_told, .inl (cI, 4, .inl vt_told))]) [0, 2, 1] rfl)
    have hD9 := (hD.sub (ws' := [(ht, .inr (4, [.ref ht_text, .ref ht_bench, .ref ht_acts, .ref ht_drawers, .ref ht_told, .ref ht_pagesOfTrial, .ref ht_kept, .int vt_spoken, .long vt_nowSeed])), (ht_bench, .inr (1, [.ref ht_bench_drops, .ref ht_bench_from, .ref ht_bench_to, .ref ht_bench_tires, .ref ht_bench_copies, .ref ht_bench_pages, .int vt_bench_size])), (ht_told, .inl (cI, 4, .inl vt_told))]) [0, 2, 1] (by decide) rfl)
    exact W.iret (v := (-1:Int32)) hx hb hr (fun t eth hW => ⟨⟨(-1:Int32), (), rfl, he.symm, by rw [eth]; exact hP9, va_K.moved hW.alike hK, hD9⟩, hS.F eth⟩) hS.2.2 dX5_habits_12
theorem hd_X5_habit : yX5_habit.cls = RX5 ∧ yX5_habit.cls ≠ "java/lang/invoke/MethodHandle" ∧ yX5_habit.cls ≠ "java/lang/invoke/VarHandle" ∧ (parseMethodDescriptor yX5_habit.desc).map (fun d => d.parameters.length) = some 1 := by decide +kernel
abbrev rm_X5_habit : Room := { frames := 3, cells := 0, slots := 0, locals := 76 }
abbrev q_X5_habit (dC : Nat → ClassId) (dI : Nat → Nat → Nat) (cI cJ cZ : ClassId) (ht ht_text ht_bench ht_acts ht_drawers ht_told ht_pagesOfTrial ht_kept ht_bench_drops ht_bench_from ht_bench_to ht_bench_tires ht_bench_copies ht_bench_pages : Nat) (vt_spoken : Int32) (vt_nowSeed : Int64) (vt_bench_size : Int32) (vt_told : Nat → Int32) (R : Int32) (A : Nat → Prop) : Array Value → State → Outcome → State → Prop := va_Qi (fun (r : Int32) (_ : Unit) => R = r) (fun (u : Unit) (t : State) => va_P (dC, dI) vwCl [(ht, .inr (4, [.ref ht_text, .ref ht_bench, .ref ht_acts, .ref ht_drawers, .ref ht_told, .ref ht_pagesOfTrial, .ref ht_kept, .int vt_spoken, .long vt_nowSeed])), (ht_bench, .inr (1, [.ref ht_bench_drops, .ref ht_bench_from, .ref ht_bench_to, .ref ht_bench_tires, .ref ht_bench_copies, .ref ht_bench_pages, .int vt_bench_size])), (ht_told, .inl (cI, 4, .inl vt_told))] t.heap ∧ va_K (dC, dI) vwCl [(cI, .int), (cJ, .long), (cZ, .boolean)] t ∧ va_D A [(ht, .inr (4, [.ref ht_text, .ref ht_bench, .ref ht_acts, .ref ht_drawers, .ref ht_told, .ref ht_pagesOfTrial, .ref ht_kept, .int vt_spoken, .long vt_nowSeed])), (ht_bench, .inr (1, [.ref ht_bench_drops, .ref ht_bench_from, .ref ht_bench_to, .ref ht_bench_tires, .ref ht_bench_copies, .ref ht_bench_pages, .int vt_bench_size])), (ht_told, .inl (cI, 4, .inl vt_told))]) A
set_option maxHeartbeats 4000000 in
set_option maxRecDepth 100000 in
theorem k_X5_habit (l : Launch) (dC : Nat → ClassId) (dI : Nat → Nat → Nat) (cI cJ cZ : ClassId) (sz : Nat) (ht ht_text ht_bench ht_acts ht_drawers ht_told ht_pagesOfTrial ht_kept ht_bench_drops ht_bench_from ht_bench_to ht_bench_tires ht_bench_copies ht_bench_pages : Nat) (a1 : Int32) (vt_spoken : Int32) (vt_nowSeed : Int64) (vt_bench_size : Int32) (vt_told : Nat → Int32) (N : Nat) (R : Int32) (hf : f_X5_habit N a1 vt_spoken vt_bench_size vt_told = some R) : Met l yX5_habit wsX5_habit (rm_X5_habit) (va_Pc [.ref ht, .int a1] (fun U => U.heap.size = sz ∧ va_P (dC, dI) vwCl [(ht, .inr (4, [.ref ht_text, .ref ht_bench, .ref ht_acts, .ref ht_drawers, .ref ht_told, .ref ht_pagesOfTrial, .ref ht_kept, .int vt_spoken, .long vt_nowSeed])), (ht_bench, .inr (1, [.ref ht_bench_drops, .ref ht_bench_from, .ref ht_bench_to, .ref ht_bench_tires, .ref ht_bench_copies, .ref ht_bench_pages, .int vt_bench_size])), (ht_told, .inl (cI, 4, .inl vt_told))] U.heap ∧ va_K (dC, dI) vwCl [(cI, .int), (cJ, .long), (cZ, .boolean)] U ∧ va_D (fun _ => True) [(ht, .inr (4, [.ref ht_text, .ref ht_bench, .ref ht_acts, .ref ht_drawers, .ref ht_told, .ref ht_pagesOfTrial, .ref ht_kept, .int vt_spoken, .long vt_nowSeed])), (ht_bench, .inr (1, [.ref ht_bench_drops, .ref ht_bench_from, .ref ht_bench_to, .ref ht_bench_tires, .ref ht_bench_copies, .ref ht_bench_pages, .int vt_bench_size])), (ht_told, .inl (cI, 4, .inl vt_told))])) (q_X5_habit dC dI cI cJ cZ ht ht_text ht_bench ht_acts ht_drawers ht_told ht_pagesOfTrial ht_kept ht_bench_drops ht_bench_from ht_bench_to ht_bench_tires ht_bench_copies ht_bench_pages vt_spoken vt_nowSeed vt_bench_size vt_told R (va_A [(ht, .inr (4, [.ref ht_text, .ref ht_bench, .ref ht_acts, .ref ht_drawers, .ref ht_told, .ref ht_pagesOfTrial, .ref ht_kept, .int vt_spoken, .long vt_nowSeed])), (ht_bench, .inr (1, [.ref ht_bench_drops, .ref ht_bench_from, .ref ht_bench_to, .ref ht_bench_tires, .ref ht_bench_copies, .ref ht_bench_pages, .int vt_bench_size])), (ht_told, .inl (cI, 4, .inl vt_told))] sz)) 0 0 (va_A [(ht, .inr (4, [.ref ht_text, .ref ht_bench, .ref ht_acts, .ref ht_drawers, .ref ht_told, .ref ht_pagesOfTrial, .ref ht_kept, .int vt_spoken, .long vt_nowSeed])), (ht_bench, .inr (1, [.ref ht_bench_drops, .ref ht_bench_from, .ref ht_bench_to, .ref ht_bench_tires, .ref ht_bench_copies, .ref ht_bench_pages, .int vt_bench_size])), (ht_told, .inl (cI, 4, .inl vt_told))] sz) := by
  refine Met.ofW (cc := cX5_habit) (maxL := 3) (ret := (some .int)) (by decide) rfl ?_
  intro p e s m args below meth c s₁ B hml hv
  obtain ⟨rfl, hsz, hP, hK, hD0⟩ := hv
  have hx := B.exec
  have hb := B.bytes
  have hr := B.returns
  have hts := atoms_spec (ws := wsX5_habit) B.pre
  have hown : s.vm.findClass RX5 = some m.cls := findClass_of_methodNamed B.named
  have hlocks := B.notSynchronized
  clear B
  subst hsz
  have hw0 := hts (.fieldLink RX5 19 "ShorthandCourt" "bench" "LShorthandCourt$Bench;") (by decide +kernel)
  have hw1 := hts (.fieldLink RX5 37 "ShorthandCourt" "told" "[I") (by decide +kernel)
  have hinX5 : ∀ w ∈ u_ws RX5 TX5 9, w ∈ wsX5_habit := by decide +kernel
  have hD := hD0.self (sz := s.heap.size)
  clear hD0
  generalize hAe : va_A [(ht, .inr (4, [.ref ht_text, .ref ht_bench, .ref ht_acts, .ref ht_drawers, .ref ht_told, .ref ht_pagesOfTrial, .ref ht_kept, .int vt_spoken, .long vt_nowSeed])), (ht_bench, .inr (1, [.ref ht_bench_drops, .ref ht_bench_from, .ref ht_bench_to, .ref ht_bench_tires, .ref ht_bench_copies, .ref ht_bench_pages, .int vt_bench_size])), (ht_told, .inl (cI, 4, .inl vt_told))] s.heap.size = A at hD ⊢
  have hA : ∀ q : Nat, s.heap.size ≤ q → A q := fun q h => by rw [← hAe]; exact Or.inr h
  clear hAe
  have hS : va_S A s.heap s.heap [] := va_S.rf
  have hl := lv_entry ([.ref ht, .int a1]) (n := 3) (Nat.le_of_ble_eq_true rfl)
  rw [lg_entry_eq]
  generalize (lg_sl ([.ref ht, .int a1]) ++ List.replicate (3 - (lg_sl ([.ref ht, .int a1])).length) Slot.unset).toArray = ls at hl ⊢
  have hl : lv_has ls 3 [(0, .ref ht), (1, .int a1)] := hl
  unfold f_X5_habit at hf
  refine lv_aload_n hx hb dX5_habit_0 rfl (lv_at hl 0 rfl) ?_
  refine va_get (D := (dC, dI)) (ci := 4) (v := .ref ht_bench) (C := RX5) (T := TX5) (N := 9) hx hb hts hinX5 hown hK hP 0 rfl rfl 1 (by decide) hw0 (fun _ h9 => h9) rfl dX5_habit_1 ?_
  refine lv_iload_n hx hb dX5_habit_4 rfl (lv_at hl 1 rfl) ?_
  obtain ⟨x1, hx1, hf⟩ := dg_bind hf
  have hPc : va_P (dC, dI) vwCl [(ht_bench, .inr (1, [.ref ht_bench_drops, .ref ht_bench_from, .ref ht_bench_to, .ref ht_bench_tires, .ref ht_bench_copies, .ref ht_bench_pages, .int vt_bench_size]))] s.heap := hP.sub [1] rfl
  have hDc : va_D A [(ht_bench, .inr (1, [.ref ht_bench_drops, .ref ht_bench_from, .ref ht_bench_to, .ref ht_bench_tires, .ref ht_bench_copies, .ref ht_bench_pages, .int vt_bench_size]))] := hD.sub [1] (by decide) rfl
  have hFc := va_free (wc := [(ht_bench, .inr (1, [.ref ht_bench_drops, .ref ht_bench_from, .ref ht_bench_to, .ref ht_bench_tires, .ref ht_bench_copies, .ref ht_bench_pages, .int vt_bench_size]))]) hD hS hA [1] rfl
  refine va_calli (va_runV (As := [.int a1]) (rest := []) ⟨hx, hb, hml, hown, hts⟩ (k_X1_has l dC dI cI cJ cZ s.heap.size ht_bench ht_bench_drops ht_bench_from ht_bench_to ht_bench_tires ht_bench_copies ht_bench_pages a1 vt_bench_size N x1 hx1) (cwV 1 hts gX5_habit_X1_has rfl rfl rfl hd_X1_has ⟨Nat.le_of_ble_eq_true rfl, Nat.le_of_ble_eq_true rfl⟩) ⟨blind_pc, va_recv hK hPc (ci := 1) (q0 := 0) rfl rfl, pre_pc hPc hK hDc⟩ rfl rfl hl.1 rfl (lv_room (Nat.le_of_ble_eq_true rfl)) dX5_habit_5 ⟨Nat.zero_le _, Nat.zero_le _⟩) hS (fun q _ h => hFc q h) hFc (fun r u t H1 locs eth hvm hw hB hz1 hk1 hS => ?_)
  obtain ⟨hP1, hK1, hD1⟩ := hB
  rw [eth] at hP1
  subst hw
  obtain ⟨hP, hD⟩ := va_join (wr := [(ht, .inr (4, [.ref ht_text, .ref ht_bench, .ref ht_acts, .ref ht_drawers, .ref ht_told, .ref ht_pagesOfTrial, .ref ht_kept, .int vt_spoken, .long vt_nowSeed])), (ht_told, .inl (cI, 4, .inl vt_told))]) (w1 := [(ht_bench, .inr (1, [.ref ht_bench_drops, .ref ht_bench_from, .ref ht_bench_to, .ref ht_bench_tires, .ref ht_bench_copies, .ref ht_bench_pages, .int vt_bench_size]))]) hP hD [1] [0, 2] rfl rfl (by decide) (by decide) hk1 hFc hP1 hD1
  clear hP1 hK1 hD1 hPc hDc hFc hk1 hz1 hvm eth
  generalize H1 = H at hP hS ⊢
  have hP : va_P (dC, dI) vwCl [(ht, .inr (4, [.ref ht_text, .ref ht_bench, .ref ht_acts, .ref ht_drawers, .ref ht_told, .ref ht_pagesOfTrial, .ref ht_kept, .int vt_spoken, .long vt_nowSeed])), (ht_told, .inl (cI, 4, .inl vt_told)), (ht_bench, .inr (1, [.ref ht_bench_drops, .ref ht_bench_from, .ref ht_bench_to, .ref ht_bench_tires, .ref ht_bench_copies, .ref ht_bench_pages, .int vt_bench_size]))] H := hP
  have hD : va_D A [(ht, .inr (4, [.ref ht_text, .ref ht_bench, .ref ht_acts, .ref ht_drawers, .ref ht_told, .ref ht_pagesOfTrial, .ref ht_kept, .int vt_spoken, .long vt_nowSeed])), (ht_told, .inl (cI, 4, .inl vt_told)), (ht_bench, .inr (1, [.ref ht_bench_drops, .ref ht_bench_from, .ref ht_bench_to, .ref ht_bench_tires, .ref ht_bench_copies, .ref ht_bench_pages, .int vt_bench_size]))] := hD
  refine lv_if_ne (tgt := 13) hx hb dX5_habit_8 (by decide) (fun c2 => ?_) (fun c2 => ?_)
  · replace hf := dg_f c2 hf
    refine lv_aload_n hx hb dX5_habit_13 rfl (lv_at hl 0 rfl) ?_
    refine va_get (D := (dC, dI)) (ci := 4) (v := .ref ht_told) (C := RX5) (T := TX5) (N := 9) hx hb hts hinX5 hown hK hP 0 rfl rfl 4 (by decide) hw1 (fun _ h9 => h9) rfl dX5_habit_14 ?_
    refine lv_iload_n hx hb dX5_habit_17 rfl (lv_at hl 1 rfl) ?_
    obtain ⟨hi3, hf⟩ := dg_ix hf
    refine va_iald hx hb hK hP 1 0 rfl rfl hi3 dX5_habit_18 ?_
    refine lv_if_ne (tgt := 25) hx hb dX5_habit_19 (by decide) (fun c4 => ?_) (fun c4 => ?_)
    · replace hf := dg_f c4 hf
      refine lv_iconst (v := 0) hx hb dX5_habit_25 (by decide) ?_
      refine lv_istore_n (lv' := [(2, .int (0:Int32)), (0, .ref ht), (1, .int a1)]) hx hb dX5_habit_26 rfl hl (by decide) rfl (fun ls hl => ?_)
      have ex27 : ∀ (z2_27 : Int32) (H : Heap) (locs : List Loc) (ls : Array Slot), va_P (dC, dI) vwCl [(ht, .inr (4, [.ref ht_text, .ref ht_bench, .ref ht_acts, .ref ht_drawers, .ref ht_told, .ref ht_pagesOfTrial, .ref ht_kept, .int vt_spoken, .long vt_nowSeed])), (ht_told, .inl (cI, 4, .inl vt_told)), (ht_bench, .inr (1, [.ref ht_bench_drops, .ref ht_bench_from, .ref ht_bench_to, .ref ht_bench_tires, .ref ht_bench_copies, .ref ht_bench_pages, .int vt_bench_size]))] H → va_D A [(ht, .inr (4, [.ref ht_text, .ref ht_bench, .ref ht_acts, .ref ht_drawers, .ref ht_told, .ref ht_pagesOfTrial, .ref ht_kept, .int vt_spoken, .long vt_nowSeed])), (ht_told, .inl (cI, 4, .inl vt_told)), (ht_bench, .inr (1, [.ref ht_bench_drops, .ref ht_bench_from, .ref ht_bench_to, .ref ht_bench_tires, .ref ht_bench_copies, .ref ht_bench_pages, .int vt_bench_size]))] → va_S A s.heap H locs → lv_has ls 3 [(2, .int z2_27), (0, .ref ht), (1, .int a1)] → (some (-9:Int32)) = some R → W p l e (rm_X5_habit) s m ([.ref ht, .int a1] : List Value).toArray below meth c H locs 0 0 (MQ below (q_X5_habit dC dI cI cJ cZ ht ht_text ht_bench ht_acts ht_drawers ht_told ht_pagesOfTrial ht_kept ht_bench_drops ht_bench_from ht_bench_to ht_bench_tires ht_bench_copies ht_bench_pages vt_spoken vt_nowSeed vt_bench_size vt_told R A) ([.ref ht, .int a1] : List Value).toArray s 0 0 A) (F0 m 84 ls []) := by
        intro z2_27 H locs ls hP hD hS hl hf
        refine lv_bipush (v := -9) hx hb dX5_habit_84 (by decide) ?_
        have he := Option.some.inj hf
        have hP9 := (hP.sub (ws' := [(ht, .inr (4, [.ref ht_text, .ref ht_bench, .ref ht_acts, .ref ht_drawers, .ref ht_told, .ref ht_pagesOfTrial, .ref ht_kept, .int vt_spoken, .long vt_nowSeed])), (ht_bench, .inr (1, [.ref ht_bench_drops, .ref ht_bench_from, .ref ht_bench_to, .ref ht_bench_tires, .ref ht_bench_copies, .ref ht_bench_pages, .int vt_bench_size])), (ht_told, .inl (cI, 4, .inl vt_told))]) [0, 2, 1] rfl)
        have hD9 := (hD.sub (ws' := [(ht, .inr (4, [.ref ht_text, .ref ht_bench, .ref ht_acts, .ref ht_drawers, .ref ht_told, .ref ht_pagesOfTrial, .ref ht_kept, .int vt_spoken, .long vt_nowSeed])), (ht_bench, .inr (1, [.ref ht_bench_drops, .ref ht_bench_from, .ref ht_bench_to, .ref ht_bench_tires, .ref ht_bench_copies, .ref ht_bench_pages, .int vt_bench_size])), (ht_told, .inl (cI, 4, .inl vt_told))]) [0, 2, 1] (by decide) rfl)
        exact W.iret (v := (-9:Int32)) hx hb hr (fun t eth hW => ⟨⟨(-9:Int32), (), rfl, he.symm, by rw [eth]; exact hP9, va_K.moved hW.alike hK, hD9⟩, hS.F eth⟩) hS.2.2 dX5_habit_86
      have lp27 : ∀ (n27 : Nat) (y2_27 : Int32) (H : Heap) (locs : List Loc) (ls : Array Slot), va_P (dC, dI) vwCl [(ht, .inr (4, [.ref ht_text, .ref ht_bench, .ref ht_acts, .ref ht_drawers, .ref ht_told, .ref ht_pagesOfTrial, .ref ht_kept, .int vt_spoken, .long vt_nowSeed])), (ht_told, .inl (cI, 4, .inl vt_told)), (ht_bench, .inr (1, [.ref ht_bench_drops, .ref ht_bench_from, .ref ht_bench_to, .ref ht_bench_tires, .ref ht_bench_copies, .ref ht_bench_pages, .int vt_bench_size]))] H → va_D A [(ht, .inr (4, [.ref ht_text, .ref ht_bench, .ref ht_acts, .ref ht_drawers, .ref ht_told, .ref ht_pagesOfTrial, .ref ht_kept, .int vt_spoken, .long vt_nowSeed])), (ht_told, .inl (cI, 4, .inl vt_told)), (ht_bench, .inr (1, [.ref ht_bench_drops, .ref ht_bench_from, .ref ht_bench_to, .ref ht_bench_tires, .ref ht_bench_copies, .ref ht_bench_pages, .int vt_bench_size]))] → va_S A s.heap H locs → lv_has ls 3 [(2, .int y2_27), (0, .ref ht), (1, .int a1)] → f_X5_habit_27 N a1 vt_spoken vt_told (fun z2_27 => some (-9:Int32)) n27 y2_27 = some R → W p l e (rm_X5_habit) s m ([.ref ht, .int a1] : List Value).toArray below meth c H locs 0 0 (MQ below (q_X5_habit dC dI cI cJ cZ ht ht_text ht_bench ht_acts ht_drawers ht_told ht_pagesOfTrial ht_kept ht_bench_drops ht_bench_from ht_bench_to ht_bench_tires ht_bench_copies ht_bench_pages vt_spoken vt_nowSeed vt_bench_size vt_told R A) ([.ref ht, .int a1] : List Value).toArray s 0 0 A) (F0 m 27 ls []) := by
        intro n27
        induction n27 with
        | zero => intro y2_27 H locs ls hP hD hS hl hf; rw [f_X5_habit_27] at hf; cases hf
        | succ n27 ih27 =>
          intro y2_27 H locs ls hP hD hS hl hf
          rw [f_X5_habit_27] at hf
          refine lv_iload_n hx hb dX5_habit_27 rfl (lv_at hl 0 rfl) ?_
          refine lv_sipush (v := 1250) hx hb dX5_habit_28 (by decide) ?_
          refine lv_icmp_ge (tgt := 84) hx hb dX5_habit_31 (by decide) (fun c5 => ?_) (fun c5 => ?_)
          · replace hf := dg_t c5 hf
            exact ex27 y2_27 _ _ _ hP hD hS (lv_sub hl [0, 1, 2] rfl) hf
          · replace hf := dg_f c5 hf
            refine lv_aload_n hx hb dX5_habit_34 rfl (lv_at hl 1 rfl) ?_
            refine lv_iload_n hx hb dX5_habit_35 rfl (lv_at hl 0 rfl) ?_
            refine lv_aload_n hx hb dX5_habit_36 rfl (lv_at hl 1 rfl) ?_
            refine va_get (D := (dC, dI)) (ci := 4) (v := .ref ht_told) (C := RX5) (T := TX5) (N := 9) hx hb hts hinX5 hown hK hP 0 rfl rfl 4 (by decide) hw1 (fun _ h9 => h9) rfl dX5_habit_37 ?_
            refine lv_iload_n hx hb dX5_habit_40 rfl (lv_at hl 2 rfl) ?_
            obtain ⟨hi6, hf⟩ := dg_ix hf
            refine va_iald hx hb hK hP 1 0 rfl rfl hi6 dX5_habit_41 ?_
            obtain ⟨x7, hx7, hf⟩ := dg_bind hf
            have hPc : va_P (dC, dI) vwCl [(ht, .inr (4, [.ref ht_text, .ref ht_bench, .ref ht_acts, .ref ht_drawers, .ref ht_told, .ref ht_pagesOfTrial, .ref ht_kept, .int vt_spoken, .long vt_nowSeed]))] H := hP.sub [0] rfl
            have hDc : va_D A [(ht, .inr (4, [.ref ht_text, .ref ht_bench, .ref ht_acts, .ref ht_drawers, .ref ht_told, .ref ht_pagesOfTrial, .ref ht_kept, .int vt_spoken, .long vt_nowSeed]))] := hD.sub [0] (by decide) rfl
            have hFc := va_free (wc := [(ht, .inr (4, [.ref ht_text, .ref ht_bench, .ref ht_acts, .ref ht_drawers, .ref ht_told, .ref ht_pagesOfTrial, .ref ht_kept, .int vt_spoken, .long vt_nowSeed]))]) hD hS hA [0] rfl
            refine va_calli (va_runV (As := [.int y2_27, .int (vt_told a1.toNatClampNeg)]) (rest := []) ⟨hx, hb, hml, hown, hts⟩ (k_X5_habitGives l dC dI cI cJ cZ H.size ht ht_text ht_bench ht_acts ht_drawers ht_told ht_pagesOfTrial ht_kept y2_27 (vt_told a1.toNatClampNeg) vt_spoken vt_nowSeed N x7 hx7) (cwV 2 hts gX5_habit_X5_habitGives rfl rfl rfl hd_X5_habitGives ⟨Nat.le_of_ble_eq_true rfl, Nat.le_of_ble_eq_true rfl⟩) ⟨blind_pc, va_recv hK hPc (ci := 4) (q0 := 0) rfl rfl, pre_pc hPc hK hDc⟩ rfl rfl hl.1 rfl (lv_room (Nat.le_of_ble_eq_true rfl)) dX5_habit_42 ⟨Nat.zero_le _, Nat.zero_le _⟩) hS (fun q _ h => hFc q h) hFc (fun r u t H1 locs eth hvm hw hB hz1 hk1 hS => ?_)
            obtain ⟨hP1, hK1, hD1⟩ := hB
            rw [eth] at hP1
            subst hw
            obtain ⟨hP, hD⟩ := va_join (wr := [(ht_told, .inl (cI, 4, .inl vt_told)), (ht_bench, .inr (1, [.ref ht_bench_drops, .ref ht_bench_from, .ref ht_bench_to, .ref ht_bench_tires, .ref ht_bench_copies, .ref ht_bench_pages, .int vt_bench_size]))]) (w1 := [(ht, .inr (4, [.ref ht_text, .ref ht_bench, .ref ht_acts, .ref ht_drawers, .ref ht_told, .ref ht_pagesOfTrial, .ref ht_kept, .int vt_spoken, .long vt_nowSeed]))]) hP hD [0] [1, 2] rfl rfl (by decide) (by decide) hk1 hFc hP1 hD1
            clear hP1 hK1 hD1 hPc hDc hFc hk1 hz1 hvm eth
            generalize H1 = H at hP hS ⊢
            have hP : va_P (dC, dI) vwCl [(ht_told, .inl (cI, 4, .inl vt_told)), (ht_bench, .inr (1, [.ref ht_bench_drops, .ref ht_bench_from, .ref ht_bench_to, .ref ht_bench_tires, .ref ht_bench_copies, .ref ht_bench_pages, .int vt_bench_size])), (ht, .inr (4, [.ref ht_text, .ref ht_bench, .ref ht_acts, .ref ht_drawers, .ref ht_told, .ref ht_pagesOfTrial, .ref ht_kept, .int vt_spoken, .long vt_nowSeed]))] H := hP
            have hD : va_D A [(ht_told, .inl (cI, 4, .inl vt_told)), (ht_bench, .inr (1, [.ref ht_bench_drops, .ref ht_bench_from, .ref ht_bench_to, .ref ht_bench_tires, .ref ht_bench_copies, .ref ht_bench_pages, .int vt_bench_size])), (ht, .inr (4, [.ref ht_text, .ref ht_bench, .ref ht_acts, .ref ht_drawers, .ref ht_told, .ref ht_pagesOfTrial, .ref ht_kept, .int vt_spoken, .long vt_nowSeed]))] := hD
            refine lv_if_eq (tgt := 78) hx hb dX5_habit_45 (by decide) (fun c8 => ?_) (fun c8 => ?_)
            · replace hf := dg_t c8 hf
              refine lv_iinc (v := (y2_27 + (1:Int32))) (lv' := [(2, .int (y2_27 + (1:Int32))), (0, .ref ht), (1, .int a1)]) hx hb dX5_habit_78 hl (k := 0) rfl (by first | rfl | decide) (by decide) rfl (fun ls hl => ?_)
              refine lv_goto (tgt := 27) hx hb dX5_habit_81 (by decide) ?_
              exact ih27 (y2_27 + (1:Int32)) _ _ _ (hP.sub (ws' := [(ht, .inr (4, [.ref ht_text, .ref ht_bench, .ref ht_acts, .ref ht_drawers, .ref ht_told, .ref ht_pagesOfTrial, .ref ht_kept, .int vt_spoken, .long vt_nowSeed])), (ht_told, .inl (cI, 4, .inl vt_told)), (ht_bench, .inr (1, [.ref ht_bench_drops, .ref ht_bench_from, .ref ht_bench_to, .ref ht_bench_tires, .ref ht_bench_copies, .ref ht_bench_pages, .int vt_bench_size]))]) [2, 0, 1] rfl) (hD.sub (ws' := [(ht, .inr (4, [.ref ht_text, .ref ht_bench, .ref ht_acts, .ref ht_drawers, .ref ht_told, .ref ht_pagesOfTrial, .ref ht_kept, .int vt_spoken, .long vt_nowSeed])), (ht_told, .inl (cI, 4, .inl vt_told)), (ht_bench, .inr (1, [.ref ht_bench_drops, .ref ht_bench_from, .ref ht_bench_to, .ref ht_bench_tires, .ref ht_bench_copies, .ref ht_bench_pages, .int vt_bench_size]))]) [2, 0, 1] (by decide) rfl) hS (lv_sub hl [0, 1, 2] rfl) hf
            · replace hf := dg_f c8 hf
              refine lv_sipush (v := 1000) hx hb dX5_habit_48 (by decide) ?_
              refine lv_iload_n hx hb dX5_habit_51 rfl (lv_at hl 0 rfl) ?_
              obtain ⟨x9, hx9, hf⟩ := dg_bind hf
              have hPc : va_P (dC, dI) vwCl [] H := hP.sub [] rfl
              have hDc : va_D A [] := hD.sub [] (by decide) rfl
              have hFc := va_free (wc := []) hD hS hA [] rfl
              refine va_calli (va_runS (As := [.int y2_27]) (rest := [.int (1000:Int32)]) ⟨hx, hb, hml, hown, hts⟩ (k_X5_dropsOf l dC dI cI cJ cZ H.size y2_27 N x9 hx9) (va_cwS 1 hts gX5_habit_X5_dropsOf rfl rfl rfl hd_X5_dropsOf ⟨Nat.le_of_ble_eq_true rfl, Nat.le_of_ble_eq_true rfl⟩) ⟨blind_pc, pre_pc hPc hK hDc⟩ rfl rfl hl.1 rfl (lv_room (Nat.le_of_ble_eq_true rfl)) dX5_habit_52 ⟨Nat.zero_le _, Nat.zero_le _⟩) hS (fun q _ h => hFc q h) hFc (fun r u t H1 locs eth hvm hw hB hz1 hk1 hS => ?_)
              obtain ⟨hP1, hK1, hD1⟩ := hB
              rw [eth] at hP1
              subst hw
              obtain ⟨hP, hD⟩ := va_join (wr := [(ht_told, .inl (cI, 4, .inl vt_told)), (ht_bench, .inr (1, [.ref ht_bench_drops, .ref ht_bench_from, .ref ht_bench_to, .ref ht_bench_tires, .ref ht_bench_copies, .ref ht_bench_pages, .int vt_bench_size])), (ht, .inr (4, [.ref ht_text, .ref ht_bench, .ref ht_acts, .ref ht_drawers, .ref ht_told, .ref ht_pagesOfTrial, .ref ht_kept, .int vt_spoken, .long vt_nowSeed]))]) (w1 := []) hP hD [] [0, 1, 2] rfl rfl (by decide) (by decide) hk1 hFc hP1 hD1
              clear hP1 hK1 hD1 hPc hDc hFc hk1 hz1 hvm eth
              generalize H1 = H at hP hS ⊢
              have hP : va_P (dC, dI) vwCl [(ht_told, .inl (cI, 4, .inl vt_told)), (ht_bench, .inr (1, [.ref ht_bench_drops, .ref ht_bench_from, .ref ht_bench_to, .ref ht_bench_tires, .ref ht_bench_copies, .ref ht_bench_pages, .int vt_bench_size])), (ht, .inr (4, [.ref ht_text, .ref ht_bench, .ref ht_acts, .ref ht_drawers, .ref ht_told, .ref ht_pagesOfTrial, .ref ht_kept, .int vt_spoken, .long vt_nowSeed]))] H := hP
              have hD : va_D A [(ht_told, .inl (cI, 4, .inl vt_told)), (ht_bench, .inr (1, [.ref ht_bench_drops, .ref ht_bench_from, .ref ht_bench_to, .ref ht_bench_tires, .ref ht_bench_copies, .ref ht_bench_pages, .int vt_bench_size])), (ht, .inr (4, [.ref ht_text, .ref ht_bench, .ref ht_acts, .ref ht_drawers, .ref ht_told, .ref ht_pagesOfTrial, .ref ht_kept, .int vt_spoken, .long vt_nowSeed]))] := hD
              refine lv_imul hx hb dX5_habit_55 ?_
              refine lv_bipush (v := 100) hx hb dX5_habit_56 (by decide) ?_
              refine lv_iload_n hx hb dX5_habit_58 rfl (lv_at hl 0 rfl) ?_
              obtain ⟨x10, hx10, hf⟩ := dg_bind hf
              have hPc : va_P (dC, dI) vwCl [] H := hP.sub [] rfl
              have hDc : va_D A [] := hD.sub [] (by decide) rfl
              have hFc := va_free (wc := []) hD hS hA [] rfl
              refine va_calli (va_runS (As := [.int y2_27]) (rest := [.int (100:Int32), .int ((1000:Int32) * x9)]) ⟨hx, hb, hml, hown, hts⟩ (k_X5_fromOf l dC dI cI cJ cZ H.size y2_27 N x10 hx10) (va_cwS 1 hts gX5_habit_X5_fromOf rfl rfl rfl hd_X5_fromOf ⟨Nat.le_of_ble_eq_true rfl, Nat.le_of_ble_eq_true rfl⟩) ⟨blind_pc, pre_pc hPc hK hDc⟩ rfl rfl hl.1 rfl (lv_room (Nat.le_of_ble_eq_true rfl)) dX5_habit_59 ⟨Nat.zero_le _, Nat.zero_le _⟩) hS (fun q _ h => hFc q h) hFc (fun r u t H1 locs eth hvm hw hB hz1 hk1 hS => ?_)
              obtain ⟨hP1, hK1, hD1⟩ := hB
              rw [eth] at hP1
              subst hw
              obtain ⟨hP, hD⟩ := va_join (wr := [(ht_told, .inl (cI, 4, .inl vt_told)), (ht_bench, .inr (1, [.ref ht_bench_drops, .ref ht_bench_from, .ref ht_bench_to, .ref ht_bench_tires, .ref ht_bench_copies, .ref ht_bench_pages, .int vt_bench_size])), (ht, .inr (4, [.ref ht_text, .ref ht_bench, .ref ht_acts, .ref ht_drawers, .ref ht_told, .ref ht_pagesOfTrial, .ref ht_kept, .int vt_spoken, .long vt_nowSeed]))]) (w1 := []) hP hD [] [0, 1, 2] rfl rfl (by decide) (by decide) hk1 hFc hP1 hD1
              clear hP1 hK1 hD1 hPc hDc hFc hk1 hz1 hvm eth
              generalize H1 = H at hP hS ⊢
              have hP : va_P (dC, dI) vwCl [(ht_told, .inl (cI, 4, .inl vt_told)), (ht_bench, .inr (1, [.ref ht_bench_drops, .ref ht_bench_from, .ref ht_bench_to, .ref ht_bench_tires, .ref ht_bench_copies, .ref ht_bench_pages, .int vt_bench_size])), (ht, .inr (4, [.ref ht_text, .ref ht_bench, .ref ht_acts, .ref ht_drawers, .ref ht_told, .ref ht_pagesOfTrial, .ref ht_kept, .int vt_spoken, .long vt_nowSeed]))] H := hP
              have hD : va_D A [(ht_told, .inl (cI, 4, .inl vt_told)), (ht_bench, .inr (1, [.ref ht_bench_drops, .ref ht_bench_from, .ref ht_bench_to, .ref ht_bench_tires, .ref ht_bench_copies, .ref ht_bench_pages, .int vt_bench_size])), (ht, .inr (4, [.ref ht_text, .ref ht_bench, .ref ht_acts, .ref ht_drawers, .ref ht_told, .ref ht_pagesOfTrial, .ref ht_kept, .int vt_spoken, .long vt_nowSeed]))] := hD
              refine lv_imul hx hb dX5_habit_62 ?_
              refine lv_iadd hx hb dX5_habit_63 ?_
              refine lv_bipush (v := 10) hx hb dX5_habit_64 (by decide) ?_
              refine lv_iload_n hx hb dX5_habit_66 rfl (lv_at hl 0 rfl) ?_
              obtain ⟨x11, hx11, hf⟩ := dg_bind hf
              have hPc : va_P (dC, dI) vwCl [] H := hP.sub [] rfl
              have hDc : va_D A [] := hD.sub [] (by decide) rfl
              have hFc := va_free (wc := []) hD hS hA [] rfl
              refine va_calli (va_runS (As := [.int y2_27]) (rest := [.int (10:Int32), .int (((1000:Int32) * x9) + ((100:Int32) * x10))]) ⟨hx, hb, hml, hown, hts⟩ (k_X5_toOf l dC dI cI cJ cZ H.size y2_27 N x11 hx11) (va_cwS 1 hts gX5_habit_X5_toOf rfl rfl rfl hd_X5_toOf ⟨Nat.le_of_ble_eq_true rfl, Nat.le_of_ble_eq_true rfl⟩) ⟨blind_pc, pre_pc hPc hK hDc⟩ rfl rfl hl.1 rfl (lv_room (Nat.le_of_ble_eq_true rfl)) dX5_habit_67 ⟨Nat.zero_le _, Nat.zero_le _⟩) hS (fun q _ h => hFc q h) hFc (fun r u t H1 locs eth hvm hw hB hz1 hk1 hS => ?_)
              obtain ⟨hP1, hK1, hD1⟩ := hB
              rw [eth] at hP1
              subst hw
              obtain ⟨hP, hD⟩ := va_join (wr := [(ht_told, .inl (cI, 4, .inl vt_told)), (ht_bench, .inr (1, [.ref ht_bench_drops, .ref ht_bench_from, .ref ht_bench_to, .ref ht_bench_tires, .ref ht_bench_copies, .ref ht_bench_pages, .int vt_bench_size])), (ht, .inr (4, [.ref ht_text, .ref ht_bench, .ref ht_acts, .ref ht_drawers, .ref ht_told, .ref ht_pagesOfTrial, .ref ht_kept, .int vt_spoken, .long vt_nowSeed]))]) (w1 := []) hP hD [] [0, 1, 2] rfl rfl (by decide) (by decide) hk1 hFc hP1 hD1
              clear hP1 hK1 hD1 hPc hDc hFc hk1 hz1 hvm eth
              generalize H1 = H at hP hS ⊢
              have hP : va_P (dC, dI) vwCl [(ht_told, .inl (cI, 4, .inl vt_told)), (ht_bench, .inr (1, [.ref ht_bench_drops, .ref ht_bench_from, .ref ht_bench_to, .ref ht_bench_tires, .ref ht_bench_copies, .ref ht_bench_pages, .int vt_bench_size])), (ht, .inr (4, [.ref ht_text, .ref ht_bench, .ref ht_acts, .ref ht_drawers, .ref ht_told, .ref ht_pagesOfTrial, .ref ht_kept, .int vt_spoken, .long vt_nowSeed]))] H := hP
              have hD : va_D A [(ht_told, .inl (cI, 4, .inl vt_told)), (ht_bench, .inr (1, [.ref ht_bench_drops, .ref ht_bench_from, .ref ht_bench_to, .ref ht_bench_tires, .ref ht_bench_copies, .ref ht_bench_pages, .int vt_bench_size])), (ht, .inr (4, [.ref ht_text, .ref ht_bench, .ref ht_acts, .ref ht_drawers, .ref ht_told, .ref ht_pagesOfTrial, .ref ht_kept, .int vt_spoken, .long vt_nowSeed]))] := hD
              refine lv_imul hx hb dX5_habit_70 ?_
              refine lv_iadd hx hb dX5_habit_71 ?_
              refine lv_iload_n hx hb dX5_habit_72 rfl (lv_at hl 0 rfl) ?_
              obtain ⟨x12, hx12, hf⟩ := dg_bind hf
              have hPc : va_P (dC, dI) vwCl [] H := hP.sub [] rfl
              have hDc : va_D A [] := hD.sub [] (by decide) rfl
              have hFc := va_free (wc := []) hD hS hA [] rfl
              refine va_calli (va_runS (As := [.int y2_27]) (rest := [.int ((((1000:Int32) * x9) + ((100:Int32) * x10)) + ((10:Int32) * x11))]) ⟨hx, hb, hml, hown, hts⟩ (k_X5_tiresOf l dC dI cI cJ cZ H.size y2_27 N x12 hx12) (va_cwS 1 hts gX5_habit_X5_tiresOf rfl rfl rfl hd_X5_tiresOf ⟨Nat.le_of_ble_eq_true rfl, Nat.le_of_ble_eq_true rfl⟩) ⟨blind_pc, pre_pc hPc hK hDc⟩ rfl rfl hl.1 rfl (lv_room (Nat.le_of_ble_eq_true rfl)) dX5_habit_73 ⟨Nat.zero_le _, Nat.zero_le _⟩) hS (fun q _ h => hFc q h) hFc (fun r u t H1 locs eth hvm hw hB hz1 hk1 hS => ?_)
              obtain ⟨hP1, hK1, hD1⟩ := hB
              rw [eth] at hP1
              subst hw
              obtain ⟨hP, hD⟩ := va_join (wr := [(ht_told, .inl (cI, 4, .inl vt_told)), (ht_bench, .inr (1, [.ref ht_bench_drops, .ref ht_bench_from, .ref ht_bench_to, .ref ht_bench_tires, .ref ht_bench_copies, .ref ht_bench_pages, .int vt_bench_size])), (ht, .inr (4, [.ref ht_text, .ref ht_bench, .ref ht_acts, .ref ht_drawers, .ref ht_told, .ref ht_pagesOfTrial, .ref ht_kept, .int vt_spoken, .long vt_nowSeed]))]) (w1 := []) hP hD [] [0, 1, 2] rfl rfl (by decide) (by decide) hk1 hFc hP1 hD1
              clear hP1 hK1 hD1 hPc hDc hFc hk1 hz1 hvm eth
              generalize H1 = H at hP hS ⊢
              have hP : va_P (dC, dI) vwCl [(ht_told, .inl (cI, 4, .inl vt_told)), (ht_bench, .inr (1, [.ref ht_bench_drops, .ref ht_bench_from, .ref ht_bench_to, .ref ht_bench_tires, .ref ht_bench_copies, .ref ht_bench_pages, .int vt_bench_size])), (ht, .inr (4, [.ref ht_text, .ref ht_bench, .ref ht_acts, .ref ht_drawers, .ref ht_told, .ref ht_pagesOfTrial, .ref ht_kept, .int vt_spoken, .long vt_nowSeed]))] H := hP
              have hD : va_D A [(ht_told, .inl (cI, 4, .inl vt_told)), (ht_bench, .inr (1, [.ref ht_bench_drops, .ref ht_bench_from, .ref ht_bench_to, .ref ht_bench_tires, .ref ht_bench_copies, .ref ht_bench_pages, .int vt_bench_size])), (ht, .inr (4, [.ref ht_text, .ref ht_bench, .ref ht_acts, .ref ht_drawers, .ref ht_told, .ref ht_pagesOfTrial, .ref ht_kept, .int vt_spoken, .long vt_nowSeed]))] := hD
              refine lv_iadd hx hb dX5_habit_76 ?_
              have he := Option.some.inj hf
              have hP9 := (hP.sub (ws' := [(ht, .inr (4, [.ref ht_text, .ref ht_bench, .ref ht_acts, .ref ht_drawers, .ref ht_told, .ref ht_pagesOfTrial, .ref ht_kept, .int vt_spoken, .long vt_nowSeed])), (ht_bench, .inr (1, [.ref ht_bench_drops, .ref ht_bench_from, .ref ht_bench_to, .ref ht_bench_tires, .ref ht_bench_copies, .ref ht_bench_pages, .int vt_bench_size])), (ht_told, .inl (cI, 4, .inl vt_told))]) [2, 1, 0] rfl)
              have hD9 := (hD.sub (ws' := [(ht, .inr (4, [.ref ht_text, .ref ht_bench, .ref ht_acts, .ref ht_drawers, .ref ht_told, .ref ht_pagesOfTrial, .ref ht_kept, .int vt_spoken, .long vt_nowSeed])), (ht_bench, .inr (1, [.ref ht_bench_drops, .ref ht_bench_from, .ref ht_bench_to, .ref ht_bench_tires, .ref ht_bench_copies, .ref ht_bench_pages, .int vt_bench_size])), (ht_told, .inl (cI, 4, .inl vt_told))]) [2, 1, 0] (by decide) rfl)
              exact W.iret (v := (((((1000:Int32) * x9) + ((100:Int32) * x10)) + ((10:Int32) * x11)) + x12)) hx hb hr (fun t eth hW => ⟨⟨(((((1000:Int32) * x9) + ((100:Int32) * x10)) + ((10:Int32) * x11)) + x12), (), rfl, he.symm, by rw [eth]; exact hP9, va_K.moved hW.alike hK, hD9⟩, hS.F eth⟩) hS.2.2 dX5_habit_77
      exact lp27 N (0:Int32) _ _ _ hP hD hS hl hf
    · replace hf := dg_t c4 hf
      refine lv_bipush (v := -3) hx hb dX5_habit_22 (by decide) ?_
      have he := Option.some.inj hf
      have hP9 := (hP.sub (ws' := [(ht, .inr (4, [.ref ht_text, .ref ht_bench, .ref ht_acts, .ref ht_drawers, .ref ht_told, .ref ht_pagesOfTrial, .ref ht_kept, .int vt_spoken, .long vt_nowSeed])), (ht_bench, .inr (1, [.ref ht_bench_drops, .ref ht_bench_from, .ref ht_bench_to, .ref ht_bench_tires, .ref ht_bench_copies, .ref ht_bench_pages, .int vt_bench_size])), (ht_told, .inl (cI, 4, .inl vt_told))]) [0, 2, 1] rfl)
      have hD9 := (hD.sub (ws' := [(ht, .inr (4, [.ref ht_text, .ref ht_bench, .ref ht_acts, .ref ht_drawers, .ref ht_told, .ref ht_pagesOfTrial, .ref ht_kept, .int vt_spoken, .long vt_nowSeed])), (ht_bench, .inr (1, [.ref ht_bench_drops, .ref ht_bench_from, .ref ht_bench_to, .ref ht_bench_tires, .ref ht_bench_copies, .ref ht_bench_pages, .int vt_bench_size])), (ht_told, .inl (cI, 4, .inl vt_told))]) [0, 2, 1] (by decide) rfl)
      exact W.iret (v := (-3:Int32)) hx hb hr (fun t eth hW => ⟨⟨(-3:Int32), (), rfl, he.symm, by rw [eth]; exact hP9, va_K.moved hW.alike hK, hD9⟩, hS.F eth⟩) hS.2.2 dX5_habit_24
  · replace hf := dg_t c2 hf
    refine lv_iconst (v := -1) hx hb dX5_habit_11 (by decide) ?_
    have he := Option.some.inj hf
    have hP9 := (hP.sub (ws' := [(ht, .inr (4, [.ref ht_text, .ref ht_bench, .ref ht_acts, .ref ht_drawers, .ref ht_told, .ref ht_pagesOfTrial, .ref ht_kept, .int vt_spoken, .long vt_nowSeed])), (ht_bench, .inr (1, [.ref ht_bench_drops, .ref ht_bench_from, .ref ht_bench_to, .ref ht_bench_tires, .ref ht_bench_copies, .ref ht_bench_pages, .int vt_bench_size])), (ht_told, .inl (cI, 4, .inl vt_told))]) [0, 2, 1] rfl)
    have hD9 := (hD.sub (ws' := [(ht, .inr (4, [.ref ht_text, .ref ht_bench, .ref ht_acts, .ref ht_drawers, .ref ht_told, .ref ht_pagesOfTrial, .ref ht_kept, .int vt_spoken, .long vt_nowSeed])), (ht_bench, .inr (1, [.ref ht_bench_drops, .ref ht_bench_from, .ref ht_bench_to, .ref ht_bench_tires, .ref ht_bench_copies, .ref ht_bench_pages, .int vt_bench_size])), (ht_told, .inl (cI, 4, .inl vt_told))]) [0, 2, 1] (by decide) rfl)
    exact W.iret (v := (-1:Int32)) hx hb hr (fun t eth hW => ⟨⟨(-1:Int32), (), rfl, he.symm, by rw [eth]; exact hP9, va_K.moved hW.alike hK, hD9⟩, hS.F eth⟩) hS.2.2 dX5_habit_12
