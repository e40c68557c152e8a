theorem hd_X6_speak : yX6_speak.cls = RX6 ∧ yX6_speak.cls ≠ "java/lang/invoke/MethodHandle" ∧ yX6_speak.cls ≠ "java/lang/invoke/VarHandle" ∧ (parseMethodDescriptor yX6_speak.desc).map (fun d => d.parameters.length) = some 1 := by decide +kernel
abbrev rm_X6_speak : Room := { frames := 1, cells := 0, slots := 0, locals := 25 }
abbrev q_X6_speak (dC : Nat → ClassId) (dI : Nat → Nat → Nat) (cI cJ cZ : ClassId) (ht ht_drops ht_tires ht_now ht_told ht_text ht_pages ht_row ht_alike ht_table ht_keys ht_own ht_isKept ht_kept : Nat) (vt_clerks : Int32) (vt_length : Int32) (vt_found : Int32) (vt_seed : Int64) (R : Int32 × Int32 × Int32 × (Nat → Int32) × (Nat → Int32)) (A : Nat → Prop) : Array Value → State → Outcome → State → Prop := va_Qi (fun (r : Int32) (u : Int32 × Int32 × (Nat → Int32) × (Nat → Int32)) => R.1 = r ∧ R.2 = u) (fun (u : Int32 × Int32 × (Nat → Int32) × (Nat → Int32)) (t : State) => va_P (dC, dI) vwCl [(ht, .inr (5, [.int vt_clerks, .ref ht_drops, .ref ht_tires, .ref ht_now, .ref ht_told, .ref ht_text, .int vt_length, .ref ht_pages, .int u.1, .int u.2.1, .ref ht_row, .int vt_found, .ref ht_alike, .ref ht_table, .ref ht_keys, .ref ht_own, .long vt_seed, .ref ht_isKept, .ref ht_kept])), (ht_now, .inl (cI, 13, .inl u.2.2.1)), (ht_row, .inl (cI, 208, .inl u.2.2.2))] t.heap ∧ va_K (dC, dI) vwCl [(cI, .int), (cJ, .long), (cZ, .boolean)] t ∧ va_D A [(ht, .inr (5, [.int vt_clerks, .ref ht_drops, .ref ht_tires, .ref ht_now, .ref ht_told, .ref ht_text, .int vt_length, .ref ht_pages, .int u.1, .int u.2.1, .ref ht_row, .int vt_found, .ref ht_alike, .ref ht_table, .ref ht_keys, .ref ht_own, .long vt_seed, .ref ht_isKept, .ref ht_kept])), (ht_now, .inl (cI, 13, .inl u.2.2.1)), (ht_row, .inl (cI, 208, .inl u.2.2.2))]) A
set_option maxHeartbeats 4000000 in
set_option maxRecDepth 100000 in
theorem k_X6_speak (l : Launch) (dC : Nat → ClassId) (dI : Nat → Nat → Nat) (cI cJ cZ : ClassId) (sz : Nat) (ht ht_drops ht_tires ht_now ht_told ht_text ht_pages ht_row ht_alike ht_table ht_keys ht_own ht_isKept ht_kept : Nat) (a1 : Int32) (vt_clerks : Int32) (vt_length : Int32) (vt_acts : Int32) (vt_next : Int32) (vt_found : Int32) (vt_seed : Int64) (vt_now : Nat → Int32) (vt_row : Nat → Int32) (N : Nat) (R : Int32 × Int32 × Int32 × (Nat → Int32) × (Nat → Int32)) (hf : f_X6_speak N a1 vt_acts vt_next vt_now vt_row = some R) : Met l yX6_speak wsX6_speak (rm_X6_speak) (va_Pc [.ref ht, .int a1] (fun U => U.heap.size = sz ∧ va_P (dC, dI) vwCl [(ht, .inr (5, [.int vt_clerks, .ref ht_drops, .ref ht_tires, .ref ht_now, .ref ht_told, .ref ht_text, .int vt_length, .ref ht_pages, .int vt_acts, .int vt_next, .ref ht_row, .int vt_found, .ref ht_alike, .ref ht_table, .ref ht_keys, .ref ht_own, .long vt_seed, .ref ht_isKept, .ref ht_kept])), (ht_now, .inl (cI, 13, .inl vt_now)), (ht_row, .inl (cI, 208, .inl vt_row))] U.heap ∧ va_K (dC, dI) vwCl [(cI, .int), (cJ, .long), (cZ, .boolean)] U ∧ va_D (fun _ => True) [(ht, .inr (5, [.int vt_clerks, .ref ht_drops, .ref ht_tires, .ref ht_now, .ref ht_told, .ref ht_text, .int vt_length, .ref ht_pages, .int vt_acts, .int vt_next, .ref ht_row, .int vt_found, .ref ht_alike, .ref ht_table, .ref ht_keys, .ref ht_own, .long vt_seed, .ref ht_isKept, .ref ht_kept])), (ht_now, .inl (cI, 13, .inl vt_now)), (ht_row, .inl (cI, 208, .inl vt_row))])) (q_X6_speak dC dI cI cJ cZ ht ht_drops ht_tires ht_now ht_told ht_text ht_pages ht_row ht_alike ht_table ht_keys ht_own ht_isKept ht_kept vt_clerks vt_length vt_found vt_seed R (va_A [(ht, .inr (5, [.int vt_clerks, .ref ht_drops, .ref ht_tires, .ref ht_now, .ref ht_told, .ref ht_text, .int vt_length, .ref ht_pages, .int vt_acts, .int vt_next, .ref ht_row, .int vt_found, .ref ht_alike, .ref ht_table, .ref ht_keys, .ref ht_own, .long vt_seed, .ref ht_isKept, .ref ht_kept])), (ht_now, .inl (cI, 13, .inl vt_now)), (ht_row, .inl (cI, 208, .inl vt_row))] sz)) 0 0 (va_A [(ht, .inr (5, [.int vt_clerks, .ref ht_drops, .ref ht_tires, .ref ht_now, .ref ht_told, .ref ht_text, .int vt_length, .ref ht_pages, .int vt_acts, .int vt_next, .ref ht_row, .int vt_found, .ref ht_alike, .ref ht_table, .ref ht_keys, .ref ht_own, .long vt_seed, .ref ht_isKept, .ref ht_kept])), (ht_now, .inl (cI, 13, .inl vt_now)), (ht_row, .inl (cI, 208, .inl vt_row))] sz) := by
  refine Met.ofW (cc := cX6_speak) (maxL := 2) (ret := (some .int)) (by decide) rfl ?_
  intro p e s m args below meth c s₁ B hml hv
  obtain ⟨rfl, hsz, hP, hK, hD0⟩ := hv
  have hx := B.exec
  have hb := B.bytes
  have hr := B.returns
  have hts := atoms_spec (ws := wsX6_speak) B.pre
  have hown : s.vm.findClass RX6 = some m.cls := findClass_of_methodNamed B.named
  have hlocks := B.notSynchronized
  clear B
  subst hsz
  have hw0 := hts (.constantLong RX6 116 (3)) (by decide +kernel)
  have hw1 := hts (.fieldLink RX6 16 "ShorthandCourtModel" "now" "[I") (by decide +kernel)
  have hinX6 : ∀ w ∈ u_ws RX6 TX6 19, w ∈ wsX6_speak := by decide +kernel
  have hD := hD0.self (sz := s.heap.size)
  clear hD0
  generalize hAe : va_A [(ht, .inr (5, [.int vt_clerks, .ref ht_drops, .ref ht_tires, .ref ht_now, .ref ht_told, .ref ht_text, .int vt_length, .ref ht_pages, .int vt_acts, .int vt_next, .ref ht_row, .int vt_found, .ref ht_alike, .ref ht_table, .ref ht_keys, .ref ht_own, .long vt_seed, .ref ht_isKept, .ref ht_kept])), (ht_now, .inl (cI, 13, .inl vt_now)), (ht_row, .inl (cI, 208, .inl vt_row))] s.heap.size = A at hD ⊢
  have hA : ∀ q : Nat, s.heap.size ≤ q → A q := fun q h => by rw [← hAe]; exact Or.inr h
  clear hAe
  have hS : va_S A s.heap s.heap [] := va_S.rf
  have hl := lv_entry ([.ref ht, .int a1]) (n := 2) (Nat.le_of_ble_eq_true rfl)
  rw [lg_entry_eq]
  generalize (lg_sl ([.ref ht, .int a1]) ++ List.replicate (2 - (lg_sl ([.ref ht, .int a1])).length) Slot.unset).toArray = ls at hl ⊢
  have hl : lv_has ls 2 [(0, .ref ht), (1, .int a1)] := hl
  unfold f_X6_speak at hf
  refine lv_iload_n hx hb dX6_speak_0 rfl (lv_at hl 1 rfl) ?_
  refine lv_i2l hx hb dX6_speak_1 rfl ?_
  refine lv_lconst (v := 0) hx hb dX6_speak_2 (by decide) ?_
  refine lv_ldc2 (v := 3) hx hb hown hw0 dX6_speak_3 ?_
  obtain ⟨x1, hx1, hf⟩ := dg_bind hf
  have hPc : va_P (dC, dI) vwCl [] s.heap := hP.sub [] rfl
  have hDc : va_D A [] := hD.sub [] (by decide) rfl
  have hFc := va_free (wc := []) hD hS hA [] rfl
  refine va_calli (va_runS (As := [.long a1.toInt64, .long (0:Int64), .long (3:Int64)]) (rest := []) ⟨hx, hb, hml, hown, hts⟩ (k_X6_in l dC dI cI cJ cZ s.heap.size a1.toInt64 (0:Int64) (3:Int64) N x1 hx1) (va_cwS 3 hts gX6_speak_X6_in rfl rfl rfl hd_X6_in ⟨Nat.le_of_ble_eq_true rfl, Nat.le_of_ble_eq_true rfl⟩) ⟨blind_pc, pre_pc hPc hK hDc⟩ rfl rfl hl.1 rfl (lv_room (Nat.le_of_ble_eq_true rfl)) dX6_speak_6 ⟨Nat.zero_le _, Nat.zero_le _⟩) hS (fun q _ h => hFc q h) hFc (fun r u t H1 locs eth hvm hw hB hz1 hk1 hS => ?_)
  obtain ⟨hP1, hK1, hD1⟩ := hB
  rw [eth] at hP1
  subst hw
  obtain ⟨hP, hD⟩ := va_join (wr := [(ht, .inr (5, [.int vt_clerks, .ref ht_drops, .ref ht_tires, .ref ht_now, .ref ht_told, .ref ht_text, .int vt_length, .ref ht_pages, .int vt_acts, .int vt_next, .ref ht_row, .int vt_found, .ref ht_alike, .ref ht_table, .ref ht_keys, .ref ht_own, .long vt_seed, .ref ht_isKept, .ref ht_kept])), (ht_now, .inl (cI, 13, .inl vt_now)), (ht_row, .inl (cI, 208, .inl vt_row))]) (w1 := []) hP hD [] [0, 1, 2] rfl rfl (by decide) (by decide) hk1 hFc hP1 hD1
  clear hP1 hK1 hD1 hPc hDc hFc hk1 hz1 hvm eth
  generalize H1 = H at hP hS ⊢
  have hP : va_P (dC, dI) vwCl [(ht, .inr (5, [.int vt_clerks, .ref ht_drops, .ref ht_tires, .ref ht_now, .ref ht_told, .ref ht_text, .int vt_length, .ref ht_pages, .int vt_acts, .int vt_next, .ref ht_row, .int vt_found, .ref ht_alike, .ref ht_table, .ref ht_keys, .ref ht_own, .long vt_seed, .ref ht_isKept, .ref ht_kept])), (ht_now, .inl (cI, 13, .inl vt_now)), (ht_row, .inl (cI, 208, .inl vt_row))] H := hP
  have hD : va_D A [(ht, .inr (5, [.int vt_clerks, .ref ht_drops, .ref ht_tires, .ref ht_now, .ref ht_told, .ref ht_text, .int vt_length, .ref ht_pages, .int vt_acts, .int vt_next, .ref ht_row, .int vt_found, .ref ht_alike, .ref ht_table, .ref ht_keys, .ref ht_own, .long vt_seed, .ref ht_isKept, .ref ht_kept])), (ht_now, .inl (cI, 13, .inl vt_now)), (ht_row, .inl (cI, 208, .inl vt_row))] := hD
  refine lv_if_ne (tgt := 15) hx hb dX6_speak_9 (by decide) (fun c2 => ?_) (fun c2 => ?_)
  · replace hf := dg_f c2 hf
    refine lv_aload_n hx hb dX6_speak_15 rfl (lv_at hl 0 rfl) ?_
    refine va_get (D := (dC, dI)) (ci := 5) (v := .ref ht_now) (C := RX6) (T := TX6) (N := 19) hx hb hts hinX6 hown hK hP 0 rfl rfl 3 (by decide) hw1 (fun _ h9 => h9) rfl dX6_speak_16 ?_
    refine lv_iconst (v := 0) hx hb dX6_speak_19 (by decide) ?_
    refine va_iald hx hb hK hP 1 0 rfl rfl (vp_in_iff.mpr (by decide)) dX6_speak_20 ?_
    refine W.eq (g2 := F0 m 21 ls [.int (vt_now 0)]) rfl ?_
    obtain ⟨x3, hx3, hf⟩ := dg_bind hf
    have hPc : va_P (dC, dI) vwCl [] H := hP.sub [] rfl
    have hDc : va_D A [] := hD.sub [] (by decide) rfl
    have hFc := va_free (wc := []) hD hS hA [] rfl
    refine va_calli (va_runS (As := [.int (vt_now 0)]) (rest := []) ⟨hx, hb, hml, hown, hts⟩ (k_X6_wordsOf l dC dI cI cJ cZ H.size (vt_now 0) N x3 hx3) (va_cwS 1 hts gX6_speak_X6_wordsOf rfl rfl rfl hd_X6_wordsOf ⟨Nat.le_of_ble_eq_true rfl, Nat.le_of_ble_eq_true rfl⟩) ⟨blind_pc, pre_pc hPc hK hDc⟩ rfl rfl hl.1 rfl (lv_room (Nat.le_of_ble_eq_true rfl)) dX6_speak_21 ⟨Nat.zero_le _, Nat.zero_le _⟩) hS (fun q _ h => hFc q h) hFc (fun r u t H1 locs eth hvm hw hB hz1 hk1 hS => ?_)
    obtain ⟨hP1, hK1, hD1⟩ := hB
    rw [eth] at hP1
    subst hw
    obtain ⟨hP, hD⟩ := va_join (wr := [(ht, .inr (5, [.int vt_clerks, .ref ht_drops, .ref ht_tires, .ref ht_now, .ref ht_told, .ref ht_text, .int vt_length, .ref ht_pages, .int vt_acts, .int vt_next, .ref ht_row, .int vt_found, .ref ht_alike, .ref ht_table, .ref ht_keys, .ref ht_own, .long vt_seed, .ref ht_isKept, .ref ht_kept])), (ht_now, .inl (cI, 13, .inl vt_now)), (ht_row, .inl (cI, 208, .inl vt_row))]) (w1 := []) hP hD [] [0, 1, 2] rfl rfl (by decide) (by decide) hk1 hFc hP1 hD1
    clear hP1 hK1 hD1 hPc hDc hFc hk1 hz1 hvm eth
    generalize H1 = H at hP hS ⊢
    have hP : va_P (dC, dI) vwCl [(ht, .inr (5, [.int vt_clerks, .ref ht_drops, .ref ht_tires, .ref ht_now, .ref ht_told, .ref ht_text, .int vt_length, .ref ht_pages, .int vt_acts, .int vt_next, .ref ht_row, .int vt_found, .ref ht_alike, .ref ht_table, .ref ht_keys, .ref ht_own, .long vt_seed, .ref ht_isKept, .ref ht_kept])), (ht_now, .inl (cI, 13, .inl vt_now)), (ht_row, .inl (cI, 208, .inl vt_row))] H := hP
    have hD : va_D A [(ht, .inr (5, [.int vt_clerks, .ref ht_drops, .ref ht_tires, .ref ht_now, .ref ht_told, .ref ht_text, .int vt_length, .ref ht_pages, .int vt_acts, .int vt_next, .ref ht_row, .int vt_found, .ref ht_alike, .ref ht_table, .ref ht_keys, .ref ht_own, .long vt_seed, .ref ht_isKept, .ref ht_kept])), (ht_now, .inl (cI, 13, .inl vt_now)), (ht_row, .inl (cI, 208, .inl vt_row))] := hD
    refine lv_bipush (v := 6) hx hb dX6_speak_24 (by decide) ?_
    refine lv_icmp_ne (tgt := 32) hx hb dX6_speak_26 (by decide) (fun c4 => ?_) (fun c4 => ?_)
    · replace hf := dg_f c4 hf
      refine lv_aload_n hx hb dX6_speak_32 rfl (lv_at hl 0 rfl) ?_
      obtain ⟨x5, hx5, hf⟩ := dg_bind hf
      have hPc : va_P (dC, dI) vwCl [(ht, .inr (5, [.int vt_clerks, .ref ht_drops, .ref ht_tires, .ref ht_now, .ref ht_told, .ref ht_text, .int vt_length, .ref ht_pages, .int vt_acts, .int vt_next, .ref ht_row, .int vt_found, .ref ht_alike, .ref ht_table, .ref ht_keys, .ref ht_own, .long vt_seed, .ref ht_isKept, .ref ht_kept])), (ht_now, .inl (cI, 13, .inl vt_now)), (ht_row, .inl (cI, 208, .inl vt_row))] H := hP.sub [0, 1, 2] rfl
      have hDc : va_D A [(ht, .inr (5, [.int vt_clerks, .ref ht_drops, .ref ht_tires, .ref ht_now, .ref ht_told, .ref ht_text, .int vt_length, .ref ht_pages, .int vt_acts, .int vt_next, .ref ht_row, .int vt_found, .ref ht_alike, .ref ht_table, .ref ht_keys, .ref ht_own, .long vt_seed, .ref ht_isKept, .ref ht_kept])), (ht_now, .inl (cI, 13, .inl vt_now)), (ht_row, .inl (cI, 208, .inl vt_row))] := hD.sub [0, 1, 2] (by decide) rfl
      have hFc := va_free (wc := [(ht, .inr (5, [.int vt_clerks, .ref ht_drops, .ref ht_tires, .ref ht_now, .ref ht_told, .ref ht_text, .int vt_length, .ref ht_pages, .int vt_acts, .int vt_next, .ref ht_row, .int vt_found, .ref ht_alike, .ref ht_table, .ref ht_keys, .ref ht_own, .long vt_seed, .ref ht_isKept, .ref ht_kept])), (ht_now, .inl (cI, 13, .inl vt_now)), (ht_row, .inl (cI, 208, .inl vt_row))]) hD hS hA [0, 1, 2] rfl
      refine va_callv (va_runV (As := []) (rest := []) ⟨hx, hb, hml, hown, hts⟩ (k_X6_keepAct l dC dI cI cJ cZ H.size ht ht_drops ht_tires ht_now ht_told ht_text ht_pages ht_row ht_alike ht_table ht_keys ht_own ht_isKept ht_kept vt_clerks vt_length vt_acts vt_next vt_found vt_seed vt_now vt_row N x5 hx5) (cwV 0 hts gX6_speak_X6_keepAct rfl rfl rfl hd_X6_keepAct ⟨Nat.le_of_ble_eq_true rfl, Nat.le_of_ble_eq_true rfl⟩) ⟨blind_pc, va_recv hK hPc (ci := 5) (q0 := 0) rfl rfl, pre_pc hPc hK hDc⟩ rfl rfl hl.1 rfl (lv_room (Nat.le_of_ble_eq_true rfl)) dX6_speak_33 ⟨Nat.zero_le _, Nat.zero_le _⟩) hS (fun q _ h => hFc q h) hFc (fun u t H1 locs eth hvm hw hB hz1 hk1 hS => ?_)
      obtain ⟨hP1, hK1, hD1⟩ := hB
      rw [eth] at hP1
      subst hw
      obtain ⟨hP, hD⟩ := va_join (wr := []) (w1 := [(ht, .inr (5, [.int vt_clerks, .ref ht_drops, .ref ht_tires, .ref ht_now, .ref ht_told, .ref ht_text, .int vt_length, .ref ht_pages, .int x5.1, .int x5.2.1, .ref ht_row, .int vt_found, .ref ht_alike, .ref ht_table, .ref ht_keys, .ref ht_own, .long vt_seed, .ref ht_isKept, .ref ht_kept])), (ht_now, .inl (cI, 13, .inl vt_now)), (ht_row, .inl (cI, 208, .inl x5.2.2))]) hP hD [0, 1, 2] [] rfl rfl (by decide) (by decide) hk1 hFc hP1 hD1
      clear hP1 hK1 hD1 hPc hDc hFc hk1 hz1 hvm eth
      generalize H1 = H at hP hS ⊢
      have hP : va_P (dC, dI) vwCl [(ht, .inr (5, [.int vt_clerks, .ref ht_drops, .ref ht_tires, .ref ht_now, .ref ht_told, .ref ht_text, .int vt_length, .ref ht_pages, .int x5.1, .int x5.2.1, .ref ht_row, .int vt_found, .ref ht_alike, .ref ht_table, .ref ht_keys, .ref ht_own, .long vt_seed, .ref ht_isKept, .ref ht_kept])), (ht_now, .inl (cI, 13, .inl vt_now)), (ht_row, .inl (cI, 208, .inl x5.2.2))] H := hP
      have hD : va_D A [(ht, .inr (5, [.int vt_clerks, .ref ht_drops, .ref ht_tires, .ref ht_now, .ref ht_told, .ref ht_text, .int vt_length, .ref ht_pages, .int x5.1, .int x5.2.1, .ref ht_row, .int vt_found, .ref ht_alike, .ref ht_table, .ref ht_keys, .ref ht_own, .long vt_seed, .ref ht_isKept, .ref ht_kept])), (ht_now, .inl (cI, 13, .inl vt_now)), (ht_row, .inl (cI, 208, .inl x5.2.2))] := hD
      refine lv_aload_n hx hb dX6_speak_36 rfl (lv_at hl 0 rfl) ?_
      refine va_get (D := (dC, dI)) (ci := 5) (v := .ref ht_now) (C := RX6) (T := TX6) (N := 19) hx hb hts hinX6 hown hK hP 0 rfl rfl 3 (by decide) hw1 (fun _ h9 => h9) rfl dX6_speak_37 ?_
      refine lv_iconst (v := 0) hx hb dX6_speak_40 (by decide) ?_
      refine lv_aload_n hx hb dX6_speak_41 rfl (lv_at hl 0 rfl) ?_
      refine va_get (D := (dC, dI)) (ci := 5) (v := .ref ht_now) (C := RX6) (T := TX6) (N := 19) hx hb hts hinX6 hown hK hP 0 rfl rfl 3 (by decide) hw1 (fun _ h9 => h9) rfl dX6_speak_42 ?_
      refine lv_iconst (v := 0) hx hb dX6_speak_45 (by decide) ?_
      refine va_iald hx hb hK hP 1 0 rfl rfl (vp_in_iff.mpr (by decide)) dX6_speak_46 ?_
      refine W.eq (g2 := F0 m 47 ls [.int (vt_now 0), .int (0:Int32), .ref ht_now]) rfl ?_
      refine lv_iload_n hx hb dX6_speak_47 rfl (lv_at hl 1 rfl) ?_
      obtain ⟨x6, hx6, hf⟩ := dg_bind hf
      have hPc : va_P (dC, dI) vwCl [] H := hP.sub [] rfl
      have hDc : va_D A [] := hD.sub [] (by decide) rfl
      have hFc := va_free (wc := []) hD hS hA [] rfl
      refine va_calli (va_runS (As := [.int (vt_now 0), .int a1]) (rest := [.int (0:Int32), .ref ht_now]) ⟨hx, hb, hml, hown, hts⟩ (k_X6_withWord l dC dI cI cJ cZ H.size (vt_now 0) a1 N x6 hx6) (va_cwS 2 hts gX6_speak_X6_withWord rfl rfl rfl hd_X6_withWord ⟨Nat.le_of_ble_eq_true rfl, Nat.le_of_ble_eq_true rfl⟩) ⟨blind_pc, pre_pc hPc hK hDc⟩ rfl rfl hl.1 rfl (lv_room (Nat.le_of_ble_eq_true rfl)) dX6_speak_48 ⟨Nat.zero_le _, Nat.zero_le _⟩) hS (fun q _ h => hFc q h) hFc (fun r u t H1 locs eth hvm hw hB hz1 hk1 hS => ?_)
      obtain ⟨hP1, hK1, hD1⟩ := hB
      rw [eth] at hP1
      subst hw
      obtain ⟨hP, hD⟩ := va_join (wr := [(ht, .inr (5, [.int vt_clerks, .ref ht_drops, .ref ht_tires, .ref ht_now, .ref ht_told, .ref ht_text, .int vt_length, .ref ht_pages, .int x5.1, .int x5.2.1, .ref ht_row, .int vt_found, .ref ht_alike, .ref ht_table, .ref ht_keys, .ref ht_own, .long vt_seed, .ref ht_isKept, .ref ht_kept])), (ht_now, .inl (cI, 13, .inl vt_now)), (ht_row, .inl (cI, 208, .inl x5.2.2))]) (w1 := []) hP hD [] [0, 1, 2] rfl rfl (by decide) (by decide) hk1 hFc hP1 hD1
      clear hP1 hK1 hD1 hPc hDc hFc hk1 hz1 hvm eth
      generalize H1 = H at hP hS ⊢
      have hP : va_P (dC, dI) vwCl [(ht, .inr (5, [.int vt_clerks, .ref ht_drops, .ref ht_tires, .ref ht_now, .ref ht_told, .ref ht_text, .int vt_length, .ref ht_pages, .int x5.1, .int x5.2.1, .ref ht_row, .int vt_found, .ref ht_alike, .ref ht_table, .ref ht_keys, .ref ht_own, .long vt_seed, .ref ht_isKept, .ref ht_kept])), (ht_now, .inl (cI, 13, .inl vt_now)), (ht_row, .inl (cI, 208, .inl x5.2.2))] H := hP
      have hD : va_D A [(ht, .inr (5, [.int vt_clerks, .ref ht_drops, .ref ht_tires, .ref ht_now, .ref ht_told, .ref ht_text, .int vt_length, .ref ht_pages, .int x5.1, .int x5.2.1, .ref ht_row, .int vt_found, .ref ht_alike, .ref ht_table, .ref ht_keys, .ref ht_own, .long vt_seed, .ref ht_isKept, .ref ht_kept])), (ht_now, .inl (cI, 13, .inl vt_now)), (ht_row, .inl (cI, 208, .inl x5.2.2))] := hD
      refine va_iast hx hb hK hP hD hS 1 0 rfl rfl (vp_in_iff.mpr (by decide)) dX6_speak_51 (fun H locs hP hD hS => ?_)
      have hP : va_P (dC, dI) vwCl [(ht, .inr (5, [.int vt_clerks, .ref ht_drops, .ref ht_tires, .ref ht_now, .ref ht_told, .ref ht_text, .int vt_length, .ref ht_pages, .int x5.1, .int x5.2.1, .ref ht_row, .int vt_found, .ref ht_alike, .ref ht_table, .ref ht_keys, .ref ht_own, .long vt_seed, .ref ht_isKept, .ref ht_kept])), (ht_now, .inl (cI, 13, .inl (upd vt_now 0 x6))), (ht_row, .inl (cI, 208, .inl x5.2.2))] H := hP
      have hD : va_D A [(ht, .inr (5, [.int vt_clerks, .ref ht_drops, .ref ht_tires, .ref ht_now, .ref ht_told, .ref ht_text, .int vt_length, .ref ht_pages, .int x5.1, .int x5.2.1, .ref ht_row, .int vt_found, .ref ht_alike, .ref ht_table, .ref ht_keys, .ref ht_own, .long vt_seed, .ref ht_isKept, .ref ht_kept])), (ht_now, .inl (cI, 13, .inl (upd vt_now 0 x6))), (ht_row, .inl (cI, 208, .inl x5.2.2))] := hD
      refine lv_aload_n hx hb dX6_speak_52 rfl (lv_at hl 0 rfl) ?_
      refine va_get (D := (dC, dI)) (ci := 5) (v := .ref ht_now) (C := RX6) (T := TX6) (N := 19) hx hb hts hinX6 hown hK hP 0 rfl rfl 3 (by decide) hw1 (fun _ h9 => h9) rfl dX6_speak_53 ?_
      refine lv_iconst (v := 0) hx hb dX6_speak_56 (by decide) ?_
      refine va_iald hx hb hK hP 1 0 rfl rfl (vp_in_iff.mpr (by decide)) dX6_speak_57 ?_
      refine W.eq (g2 := F0 m 58 ls [.int ((upd vt_now 0 x6) 0)]) rfl ?_
      obtain ⟨x7, hx7, hf⟩ := dg_bind hf
      have hPc : va_P (dC, dI) vwCl [] H := hP.sub [] rfl
      have hDc : va_D A [] := hD.sub [] (by decide) rfl
      have hFc := va_free (wc := []) hD hS hA [] rfl
      refine va_calli (va_runS (As := [.int ((upd vt_now 0 x6) 0)]) (rest := []) ⟨hx, hb, hml, hown, hts⟩ (k_X6_wordsOf l dC dI cI cJ cZ H.size ((upd vt_now 0 x6) 0) N x7 hx7) (va_cwS 1 hts gX6_speak_X6_wordsOf rfl rfl rfl hd_X6_wordsOf ⟨Nat.le_of_ble_eq_true rfl, Nat.le_of_ble_eq_true rfl⟩) ⟨blind_pc, pre_pc hPc hK hDc⟩ rfl rfl hl.1 rfl (lv_room (Nat.le_of_ble_eq_true rfl)) dX6_speak_58 ⟨Nat.zero_le _, Nat.zero_le _⟩) hS (fun q _ h => hFc q h) hFc (fun r u t H1 locs eth hvm hw hB hz1 hk1 hS => ?_)
      obtain ⟨hP1, hK1, hD1⟩ := hB
      rw [eth] at hP1
      subst hw
      obtain ⟨hP, hD⟩ := va_join (wr := [(ht, .inr (5, [.int vt_clerks, .ref ht_drops, .ref ht_tires, .ref ht_now, .ref ht_told, .ref ht_text, .int vt_length, .ref ht_pages, .int x5.1, .int x5.2.1, .ref ht_row, .int vt_found, .ref ht_alike, .ref ht_table, .ref ht_keys, .ref ht_own, .long vt_seed, .ref ht_isKept, .ref ht_kept])), (ht_now, .inl (cI, 13, .inl (upd vt_now 0 x6))), (ht_row, .inl (cI, 208, .inl x5.2.2))]) (w1 := []) hP hD [] [0, 1, 2] rfl rfl (by decide) (by decide) hk1 hFc hP1 hD1
      clear hP1 hK1 hD1 hPc hDc hFc hk1 hz1 hvm eth
      generalize H1 = H at hP hS ⊢
      have hP : va_P (dC, dI) vwCl [(ht, .inr (5, [.int vt_clerks, .ref ht_drops, .ref ht_tires, .ref ht_now, .ref ht_told, .ref ht_text, .int vt_length, .ref ht_pages, .int x5.1, .int x5.2.1, .ref ht_row, .int vt_found, .ref ht_alike, .ref ht_table, .ref ht_keys, .ref ht_own, .long vt_seed, .ref ht_isKept, .ref ht_kept])), (ht_now, .inl (cI, 13, .inl (upd vt_now 0 x6))), (ht_row, .inl (cI, 208, .inl x5.2.2))] H := hP
      have hD : va_D A [(ht, .inr (5, [.int vt_clerks, .ref ht_drops, .ref ht_tires, .ref ht_now, .ref ht_told, .ref ht_text, .int vt_length, .ref ht_pages, .int x5.1, .int x5.2.1, .ref ht_row, .int vt_found, .ref ht_alike, .ref ht_table, .ref ht_keys, .ref ht_own, .long vt_seed, .ref ht_isKept, .ref ht_kept])), (ht_now, .inl (cI, 13, .inl (upd vt_now 0 x6))), (ht_row, .inl (cI, 208, .inl x5.2.2))] := hD
      have he := Option.some.inj hf
      have hP9 := hP
      have hD9 := hD
      exact W.iret (v := x7) hx hb hr (fun t eth hW => ⟨⟨x7, (x5.1, x5.2.1, (upd vt_now 0 x6), x5.2.2), rfl, ⟨(congrArg Prod.fst he).symm, (congrArg Prod.snd he).symm⟩, by rw [eth]; exact hP9, va_K.moved hW.alike hK, hD9⟩, hS.F eth⟩) hS.2.2 dX6_speak_61
    · replace hf := dg_t c4 hf
      refine lv_bipush (v := -4) hx hb dX6_speak_29 (by decide) ?_
      have he := Option.some.inj hf
      have hP9 := hP
      have hD9 := hD
      exact W.iret (v := (-4:Int32)) hx hb hr (fun t eth hW => ⟨⟨(-4:Int32), (vt_acts, vt_next, vt_now, vt_row), rfl, ⟨(congrArg Prod.fst he).symm, (congrArg Prod.snd he).symm⟩, by rw [eth]; exact hP9, va_K.moved hW.alike hK, hD9⟩, hS.F eth⟩) hS.2.2 dX6_speak_31
  · replace hf := dg_t c2 hf
    refine lv_bipush (v := -2) hx hb dX6_speak_12 (by decide) ?_
    have he := Option.some.inj hf
    have hP9 := hP
    have hD9 := hD
    exact W.iret (v := (-2:Int32)) hx hb hr (fun t eth hW => ⟨⟨(-2:Int32), (vt_acts, vt_next, vt_now, vt_row), rfl, ⟨(congrArg Prod.fst he).symm, (congrArg Prod.snd he).symm⟩, by rw [eth]; exact hP9, va_K.moved hW.alike hK, hD9⟩, hS.F eth⟩) hS.2.2 dX6_speak_14
theorem hd_X6_strike : yX6_strike.cls = RX6 ∧ yX6_strike.cls ≠ "java/lang/invoke/MethodHandle" ∧ yX6_strike.cls ≠ "java/lang/invoke/VarHandle" ∧ (parseMethodDescriptor yX6_strike.desc).map (fun d => d.parameters.length) = some 0 := by decide +kernel
abbrev rm_X6_strike : Room := { frames := 1, cells := 0, slots := 0, locals := 21 }
abbrev q_X6_strike (dC : Nat → ClassId) (dI : Nat → Nat → Nat) (cI cJ cZ : ClassId) (ht ht_drops ht_tires ht_now ht_told ht_text ht_pages ht_row ht_alike ht_table ht_keys ht_own ht_isKept ht_kept : Nat) (vt_clerks : Int32) (vt_length : Int32) (vt_found : Int32) (vt_seed : Int64) (R : Int32 × Int32 × Int32 × (Nat → Int32) × (Nat → Int32)) (A : Nat → Prop) : Array Value → State → Outcome → State → Prop := va_Qi (fun (r : Int32) (u : Int32 × Int32 × (Nat → Int32) × (Nat → Int32)) => R.1 = r ∧ R.2 = u) (fun (u : Int32 × Int32 × (Nat → Int32) × (Nat → Int32)) (t : State) => va_P (dC, dI) vwCl [(ht, .inr (5, [.int vt_clerks, .ref ht_drops, .ref ht_tires, .ref ht_now, .ref ht_told, .ref ht_text, .int vt_length, .ref ht_pages, .int u.1, .int u.2.1, .ref ht_row, .int vt_found, .ref ht_alike, .ref ht_table, .ref ht_keys, .ref ht_own, .long vt_seed, .ref ht_isKept, .ref ht_kept])), (ht_now, .inl (cI, 13, .inl u.2.2.1)), (ht_row, .inl (cI, 208, .inl u.2.2.2))] t.heap ∧ va_K (dC, dI) vwCl [(cI, .int), (cJ, .long), (cZ, .boolean)] t ∧ va_D A [(ht, .inr (5, [.int vt_clerks, .ref ht_drops, .ref ht_tires, .ref ht_now, .ref ht_told, .ref ht_text, .int vt_length, .ref ht_pages, .int u.1, .int u.2.1, .ref ht_row, .int vt_found, .ref ht_alike, .ref ht_table, .ref ht_keys, .ref ht_own, .long vt_seed, .ref ht_isKept, .ref ht_kept])), (ht_now, .inl (cI, 13, .inl u.2.2.1)), (ht_row, .inl (cI, 208, .inl u.2.2.2))]) A
set_option maxHeartbeats 4000000 in
set_option maxRecDepth 100000 in
theorem k_X6_strike (l : Launch) (dC : Nat → ClassId) (dI : Nat → Nat → Nat) (cI cJ cZ : ClassId) (sz : Nat) (ht ht_drops ht_tires ht_now ht_told ht_text ht_pages ht_row ht_alike ht_table ht_keys ht_own ht_isKept ht_kept : Nat) (vt_clerks : Int32) (vt_length : Int32) (vt_acts : Int32) (vt_next : Int32) (vt_found : Int32) (vt_seed : Int64) (vt_now : Nat → Int32) (vt_row : Nat → Int32) (N : Nat) (R : Int32 × Int32 × Int32 × (Nat → Int32) × (Nat → Int32)) (hf : f_X6_strike N vt_acts vt_next vt_now vt_row = some R) : Met l yX6_strike wsX6_strike (rm_X6_strike) (va_Pc [.ref ht] (fun U => U.heap.size = sz ∧ va_P (dC, dI) vwCl [(ht, .inr (5, [.int vt_clerks, .ref ht_drops, .ref ht_tires, .ref ht_now, .ref ht_told, .ref ht_text, .int vt_length, .ref ht_pages, .int vt_acts, .int vt_next, .ref ht_row, .int vt_found, .ref ht_alike, .ref ht_table, .ref ht_keys, .ref ht_own, .long vt_seed, .ref ht_isKept, .ref ht_kept])), (ht_now, .inl (cI, 13, .inl vt_now)), (ht_row, .inl (cI, 208, .inl vt_row))] U.heap ∧ va_K (dC, dI) vwCl [(cI, .int), (cJ, .long), (cZ, .boolean)] U ∧ va_D (fun _ => True) [(ht, .inr (5, [.int vt_clerks, .ref ht_drops, .ref ht_tires, .ref ht_now, .ref ht_told, .ref ht_text, .int vt_length, .ref ht_pages, .int vt_acts, .int vt_next, .ref ht_row, .int vt_found, .ref ht_alike, .ref ht_table, .ref ht_keys, .ref ht_own, .long vt_seed, .ref ht_isKept, .ref ht_kept])), (ht_now, .inl (cI, 13, .inl vt_now)), (ht_row, .inl (cI, 208, .inl vt_row))])) (q_X6_strike dC dI cI cJ cZ ht ht_drops ht_tires ht_now ht_told ht_text ht_pages ht_row ht_alike ht_table ht_keys ht_own ht_isKept ht_kept vt_clerks vt_length vt_found vt_seed R (va_A [(ht, .inr (5, [.int vt_clerks, .ref ht_drops, .ref ht_tires, .ref ht_now, .ref ht_told, .ref ht_text, .int vt_length, .ref ht_pages, .int vt_acts, .int vt_next, .ref ht_row, .int vt_found, .ref ht_alike, .ref ht_table, .ref ht_keys, .ref ht_own, .long vt_seed, .ref ht_isKept, .ref ht_kept])), (ht_now, .inl (cI, 13, .inl vt_now)), (ht_row, .inl (cI, 208, .inl vt_row))] sz)) 0 0 (va_A [(ht, .inr (5, [.int vt_clerks, .ref ht_drops, .ref ht_tires, .ref ht_now, .ref ht_told, .ref ht_text, .int vt_length, .ref ht_pages, .int vt_acts, .int vt_next, .ref ht_row, .int vt_found, .ref ht_alike, .ref ht_table, .ref ht_keys, .ref ht_own, .long vt_seed, .ref ht_isKept, .ref ht_kept])), (ht_now, .inl (cI, 13, .inl vt_now)), (ht_row, .inl (cI, 208, .inl vt_row))] sz) := by
  refine Met.ofW (cc := cX6_strike) (maxL := 2) (ret := (some .int)) (by decide) rfl ?_
  intro p e s m args below meth c s₁ B hml hv
  obtain ⟨rfl, hsz, hP, hK, hD0⟩ := hv
  have hx := B.exec
  have hb := B.bytes
  have hr := B.returns
  have hts := atoms_spec (ws := wsX6_strike) B.pre
  have hown : s.vm.findClass RX6 = some m.cls := findClass_of_methodNamed B.named
  have hlocks := B.notSynchronized
  clear B
  subst hsz
  have hw0 := hts (.fieldLink RX6 16 "ShorthandCourtModel" "now" "[I") (by decide +kernel)
  have hinX6 : ∀ w ∈ u_ws RX6 TX6 19, w ∈ wsX6_strike := by decide +kernel
  have hD := hD0.self (sz := s.heap.size)
  clear hD0
  generalize hAe : va_A [(ht, .inr (5, [.int vt_clerks, .ref ht_drops, .ref ht_tires, .ref ht_now, .ref ht_told, .ref ht_text, .int vt_length, .ref ht_pages, .int vt_acts, .int vt_next, .ref ht_row, .int vt_found, .ref ht_alike, .ref ht_table, .ref ht_keys, .ref ht_own, .long vt_seed, .ref ht_isKept, .ref ht_kept])), (ht_now, .inl (cI, 13, .inl vt_now)), (ht_row, .inl (cI, 208, .inl vt_row))] s.heap.size = A at hD ⊢
  have hA : ∀ q : Nat, s.heap.size ≤ q → A q := fun q h => by rw [← hAe]; exact Or.inr h
  clear hAe
  have hS : va_S A s.heap s.heap [] := va_S.rf
  have hl := lv_entry ([.ref ht]) (n := 2) (Nat.le_of_ble_eq_true rfl)
  rw [lg_entry_eq]
  generalize (lg_sl ([.ref ht]) ++ List.replicate (2 - (lg_sl ([.ref ht])).length) Slot.unset).toArray = ls at hl ⊢
  have hl : lv_has ls 2 [(0, .ref ht)] := hl
  unfold f_X6_strike at hf
  refine lv_aload_n hx hb dX6_strike_0 rfl (lv_at hl 0 rfl) ?_
  refine va_get (D := (dC, dI)) (ci := 5) (v := .ref ht_now) (C := RX6) (T := TX6) (N := 19) hx hb hts hinX6 hown hK hP 0 rfl rfl 3 (by decide) hw0 (fun _ h9 => h9) rfl dX6_strike_1 ?_
  refine lv_iconst (v := 0) hx hb dX6_strike_4 (by decide) ?_
  refine va_iald hx hb hK hP 1 0 rfl rfl (vp_in_iff.mpr (by decide)) dX6_strike_5 ?_
  refine W.eq (g2 := F0 m 6 ls [.int (vt_now 0)]) rfl ?_
  refine lv_if_ne (tgt := 12) hx hb dX6_strike_6 (by decide) (fun c1 => ?_) (fun c1 => ?_)
  · replace hf := dg_f c1 hf
    refine lv_aload_n hx hb dX6_strike_12 rfl (lv_at hl 0 rfl) ?_
    obtain ⟨x2, hx2, hf⟩ := dg_bind hf
    have hPc : va_P (dC, dI) vwCl [(ht, .inr (5, [.int vt_clerks, .ref ht_drops, .ref ht_tires, .ref ht_now, .ref ht_told, .ref ht_text, .int vt_length, .ref ht_pages, .int vt_acts, .int vt_next, .ref ht_row, .int vt_found, .ref ht_alike, .ref ht_table, .ref ht_keys, .ref ht_own, .long vt_seed, .ref ht_isKept, .ref ht_kept])), (ht_now, .inl (cI, 13, .inl vt_now)), (ht_row, .inl (cI, 208, .inl vt_row))] s.heap := hP.sub [0, 1, 2] rfl
    have hDc : va_D A [(ht, .inr (5, [.int vt_clerks, .ref ht_drops, .ref ht_tires, .ref ht_now, .ref ht_told, .ref ht_text, .int vt_length, .ref ht_pages, .int vt_acts, .int vt_next, .ref ht_row, .int vt_found, .ref ht_alike, .ref ht_table, .ref ht_keys, .ref ht_own, .long vt_seed, .ref ht_isKept, .ref ht_kept])), (ht_now, .inl (cI, 13, .inl vt_now)), (ht_row, .inl (cI, 208, .inl vt_row))] := hD.sub [0, 1, 2] (by decide) rfl
    have hFc := va_free (wc := [(ht, .inr (5, [.int vt_clerks, .ref ht_drops, .ref ht_tires, .ref ht_now, .ref ht_told, .ref ht_text, .int vt_length, .ref ht_pages, .int vt_acts, .int vt_next, .ref ht_row, .int vt_found, .ref ht_alike, .ref ht_table, .ref ht_keys, .ref ht_own, .long vt_seed, .ref ht_isKept, .ref ht_kept])), (ht_now, .inl (cI, 13, .inl vt_now)), (ht_row, .inl (cI, 208, .inl vt_row))]) hD hS hA [0, 1, 2] rfl
    refine va_callv (va_runV (As := []) (rest := []) ⟨hx, hb, hml, hown, hts⟩ (k_X6_keepAct l dC dI cI cJ cZ s.heap.size ht ht_drops ht_tires ht_now ht_told ht_text ht_pages ht_row ht_alike ht_table ht_keys ht_own ht_isKept ht_kept vt_clerks vt_length vt_acts vt_next vt_found vt_seed vt_now vt_row N x2 hx2) (cwV 0 hts gX6_strike_X6_keepAct rfl rfl rfl hd_X6_keepAct ⟨Nat.le_of_ble_eq_true rfl, Nat.le_of_ble_eq_true rfl⟩) ⟨blind_pc, va_recv hK hPc (ci := 5) (q0 := 0) rfl rfl, pre_pc hPc hK hDc⟩ rfl rfl hl.1 rfl (lv_room (Nat.le_of_ble_eq_true rfl)) dX6_strike_13 ⟨Nat.zero_le _, Nat.zero_le _⟩) hS (fun q _ h => hFc q h) hFc (fun u t H1 locs eth hvm hw hB hz1 hk1 hS => ?_)
    obtain ⟨hP1, hK1, hD1⟩ := hB
    rw [eth] at hP1
    subst hw
    obtain ⟨hP, hD⟩ := va_join (wr := []) (w1 := [(ht, .inr (5, [.int vt_clerks, .ref ht_drops, .ref ht_tires, .ref ht_now, .ref ht_told, .ref ht_text, .int vt_length, .ref ht_pages, .int x2.1, .int x2.2.1, .ref ht_row, .int vt_found, .ref ht_alike, .ref ht_table, .ref ht_keys, .ref ht_own, .long vt_seed, .ref ht_isKept, .ref ht_kept])), (ht_now, .inl (cI, 13, .inl vt_now)), (ht_row, .inl (cI, 208, .inl x2.2.2))]) hP hD [0, 1, 2] [] rfl rfl (by decide) (by decide) hk1 hFc hP1 hD1
    clear hP1 hK1 hD1 hPc hDc hFc hk1 hz1 hvm eth
    generalize H1 = H at hP hS ⊢
    have hP : va_P (dC, dI) vwCl [(ht, .inr (5, [.int vt_clerks, .ref ht_drops, .ref ht_tires, .ref ht_now, .ref ht_told, .ref ht_text, .int vt_length, .ref ht_pages, .int x2.1, .int x2.2.1, .ref ht_row, .int vt_found, .ref ht_alike, .ref ht_table, .ref ht_keys, .ref ht_own, .long vt_seed, .ref ht_isKept, .ref ht_kept])), (ht_now, .inl (cI, 13, .inl vt_now)), (ht_row, .inl (cI, 208, .inl x2.2.2))] H := hP
    have hD : va_D A [(ht, .inr (5, [.int vt_clerks, .ref ht_drops, .ref ht_tires, .ref ht_now, .ref ht_told, .ref ht_text, .int vt_length, .ref ht_pages, .int x2.1, .int x2.2.1, .ref ht_row, .int vt_found, .ref ht_alike, .ref ht_table, .ref ht_keys, .ref ht_own, .long vt_seed, .ref ht_isKept, .ref ht_kept])), (ht_now, .inl (cI, 13, .inl vt_now)), (ht_row, .inl (cI, 208, .inl x2.2.2))] := hD
    refine lv_aload_n hx hb dX6_strike_16 rfl (lv_at hl 0 rfl) ?_
    refine va_get (D := (dC, dI)) (ci := 5) (v := .ref ht_now) (C := RX6) (T := TX6) (N := 19) hx hb hts hinX6 hown hK hP 0 rfl rfl 3 (by decide) hw0 (fun _ h9 => h9) rfl dX6_strike_17 ?_
    refine lv_iconst (v := 0) hx hb dX6_strike_20 (by decide) ?_
    refine va_iald hx hb hK hP 1 0 rfl rfl (vp_in_iff.mpr (by decide)) dX6_strike_21 ?_
    refine W.eq (g2 := F0 m 22 ls [.int (vt_now 0)]) rfl ?_
    refine lv_iconst (v := 4) hx hb dX6_strike_22 (by decide) ?_
    refine lv_irem hx hb dX6_strike_23 (by decide) ?_
    refine lv_istore_n (lv' := [(1, .int ((vt_now 0) - (vt_now 0) / (4:Int32) * (4:Int32))), (0, .ref ht)]) hx hb dX6_strike_24 rfl hl (by decide) rfl (fun ls hl => ?_)
    refine lv_aload_n hx hb dX6_strike_25 rfl (lv_at hl 1 rfl) ?_
    refine va_get (D := (dC, dI)) (ci := 5) (v := .ref ht_now) (C := RX6) (T := TX6) (N := 19) hx hb hts hinX6 hown hK hP 0 rfl rfl 3 (by decide) hw0 (fun _ h9 => h9) rfl dX6_strike_26 ?_
    refine lv_iconst (v := 0) hx hb dX6_strike_29 (by decide) ?_
    refine lv_aload_n hx hb dX6_strike_30 rfl (lv_at hl 1 rfl) ?_
    refine va_get (D := (dC, dI)) (ci := 5) (v := .ref ht_now) (C := RX6) (T := TX6) (N := 19) hx hb hts hinX6 hown hK hP 0 rfl rfl 3 (by decide) hw0 (fun _ h9 => h9) rfl dX6_strike_31 ?_
    refine lv_iconst (v := 0) hx hb dX6_strike_34 (by decide) ?_
    refine va_iald hx hb hK hP 1 0 rfl rfl (vp_in_iff.mpr (by decide)) dX6_strike_35 ?_
    refine W.eq (g2 := F0 m 36 ls [.int (vt_now 0), .int (0:Int32), .ref ht_now]) rfl ?_
    refine lv_sipush (v := 4096) hx hb dX6_strike_36 (by decide) ?_
    refine lv_idiv hx hb dX6_strike_39 (by decide) ?_
    refine lv_sipush (v := 4096) hx hb dX6_strike_40 (by decide) ?_
    refine lv_imul hx hb dX6_strike_43 ?_
    refine lv_sipush (v := 4096) hx hb dX6_strike_44 (by decide) ?_
    refine lv_isub hx hb dX6_strike_47 ?_
    refine lv_aload_n hx hb dX6_strike_48 rfl (lv_at hl 1 rfl) ?_
    refine va_get (D := (dC, dI)) (ci := 5) (v := .ref ht_now) (C := RX6) (T := TX6) (N := 19) hx hb hts hinX6 hown hK hP 0 rfl rfl 3 (by decide) hw0 (fun _ h9 => h9) rfl dX6_strike_49 ?_
    refine lv_iconst (v := 0) hx hb dX6_strike_52 (by decide) ?_
    refine va_iald hx hb hK hP 1 0 rfl rfl (vp_in_iff.mpr (by decide)) dX6_strike_53 ?_
    refine W.eq (g2 := F0 m 54 ls [.int (vt_now 0), .int ((((vt_now 0) / (4096:Int32)) * (4096:Int32)) - (4096:Int32)), .int (0:Int32), .ref ht_now]) rfl ?_
    refine lv_sipush (v := 4096) hx hb dX6_strike_54 (by decide) ?_
    refine lv_irem hx hb dX6_strike_57 (by decide) ?_
    refine lv_iconst (v := 4) hx hb dX6_strike_58 (by decide) ?_
    refine lv_idiv hx hb dX6_strike_59 (by decide) ?_
    refine lv_iadd hx hb dX6_strike_60 ?_
    refine va_iast hx hb hK hP hD hS 1 0 rfl rfl (vp_in_iff.mpr (by decide)) dX6_strike_61 (fun H locs hP hD hS => ?_)
    have hP : va_P (dC, dI) vwCl [(ht, .inr (5, [.int vt_clerks, .ref ht_drops, .ref ht_tires, .ref ht_now, .ref ht_told, .ref ht_text, .int vt_length, .ref ht_pages, .int x2.1, .int x2.2.1, .ref ht_row, .int vt_found, .ref ht_alike, .ref ht_table, .ref ht_keys, .ref ht_own, .long vt_seed, .ref ht_isKept, .ref ht_kept])), (ht_now, .inl (cI, 13, .inl (upd vt_now 0 (((((vt_now 0) / (4096:Int32)) * (4096:Int32)) - (4096:Int32)) + (((vt_now 0) - (vt_now 0) / (4096:Int32) * (4096:Int32)) / (4:Int32)))))), (ht_row, .inl (cI, 208, .inl x2.2.2))] H := hP
    have hD : va_D A [(ht, .inr (5, [.int vt_clerks, .ref ht_drops, .ref ht_tires, .ref ht_now, .ref ht_told, .ref ht_text, .int vt_length, .ref ht_pages, .int x2.1, .int x2.2.1, .ref ht_row, .int vt_found, .ref ht_alike, .ref ht_table, .ref ht_keys, .ref ht_own, .long vt_seed, .ref ht_isKept, .ref ht_kept])), (ht_now, .inl (cI, 13, .inl (upd vt_now 0 (((((vt_now 0) / (4096:Int32)) * (4096:Int32)) - (4096:Int32)) + (((vt_now 0) - (vt_now 0) / (4096:Int32) * (4096:Int32)) / (4:Int32)))))), (ht_row, .inl (cI, 208, .inl x2.2.2))] := hD
    refine lv_iload_n hx hb dX6_strike_62 rfl (lv_at hl 0 rfl) ?_
    have he := Option.some.inj hf
    have hP9 := hP
    have hD9 := hD
    exact W.iret (v := ((vt_now 0) - (vt_now 0) / (4:Int32) * (4:Int32))) hx hb hr (fun t eth hW => ⟨⟨((vt_now 0) - (vt_now 0) / (4:Int32) * (4:Int32)), (x2.1, x2.2.1, (upd vt_now 0 (((((vt_now 0) / (4096:Int32)) * (4096:Int32)) - (4096:Int32)) + (((vt_now 0) - (vt_now 0) / (4096:Int32) * (4096:Int32)) / (4:Int32)))), x2.2.2), rfl, ⟨(congrArg Prod.fst he).symm, (congrArg Prod.snd he).symm⟩, by rw [eth]; exact hP9, va_K.moved hW.alike hK, hD9⟩, hS.F eth⟩) hS.2.2 dX6_strike_63
  · replace hf := dg_t c1 hf
    refine lv_bipush (v := -3) hx hb dX6_strike_9 (by decide) ?_
    have he := Option.some.inj hf
    have hP9 := hP
    have hD9 := hD
    exact W.iret (v := (-3:Int32)) hx hb hr (fun t eth hW => ⟨⟨(-3:Int32), (vt_acts, vt_next, vt_now, vt_row), rfl, ⟨(congrArg Prod.fst he).symm, (congrArg Prod.snd he).symm⟩, by rw [eth]; exact hP9, va_K.moved hW.alike hK, hD9⟩, hS.F eth⟩) hS.2.2 dX6_strike_11
theorem hd_X6_reform : yX6_reform.cls = RX6 ∧ yX6_reform.cls ≠ "java/lang/invoke/MethodHandle" ∧ yX6_reform.cls ≠ "java/lang/invoke/VarHandle" ∧ (parseMethodDescriptor yX6_reform.desc).map (fun d => d.parameters.length) = some 1 := by decide +kernel
abbrev rm_X6_reform : Room := { frames := 2, cells := 0, slots := 0, locals := 46 }
abbrev q_X6_reform (dC : Nat → ClassId) (dI : Nat → Nat → Nat) (cI cJ cZ : ClassId) (ht ht_drops ht_tires ht_now ht_told ht_text ht_pages ht_row ht_alike ht_table ht_keys ht_own ht_isKept ht_kept : Nat) (vt_clerks : Int32) (vt_length : Int32) (vt_found : Int32) (vt_seed : Int64) (R : Int32 × Int32 × Int32 × (Nat → Int32) × (Nat → Int32)) (A : Nat → Prop) : Array Value → State → Outcome → State → Prop := va_Qi (fun (r : Int32) (u : Int32 × Int32 × (Nat → Int32) × (Nat → Int32)) => R.1 = r ∧ R.2 = u) (fun (u : Int32 × Int32 × (Nat → Int32) × (Nat → Int32)) (t : State) => va_P (dC, dI) vwCl [(ht, .inr (5, [.int vt_clerks, .ref ht_drops, .ref ht_tires, .ref ht_now, .ref ht_told, .ref ht_text, .int vt_length, .ref ht_pages, .int u.1, .int u.2.1, .ref ht_row, .int vt_found, .ref ht_alike, .ref ht_table, .ref ht_keys, .ref ht_own, .long vt_seed, .ref ht_isKept, .ref ht_kept])), (ht_now, .inl (cI, 13, .inl u.2.2.1)), (ht_row, .inl (cI, 208, .inl u.2.2.2))] t.heap ∧ va_K (dC, dI) vwCl [(cI, .int), (cJ, .long), (cZ, .boolean)] t ∧ va_D A [(ht, .inr (5, [.int vt_clerks, .ref ht_drops, .ref ht_tires, .ref ht_now, .ref ht_told, .ref ht_text, .int vt_length, .ref ht_pages, .int u.1, .int u.2.1, .ref ht_row, .int vt_found, .ref ht_alike, .ref ht_table, .ref ht_keys, .ref ht_own, .long vt_seed, .ref ht_isKept, .ref ht_kept])), (ht_now, .inl (cI, 13, .inl u.2.2.1)), (ht_row, .inl (cI, 208, .inl u.2.2.2))]) A
set_option maxHeartbeats 4000000 in
set_option maxRecDepth 100000 in
theorem k_X6_reform (l : Launch) (dC : Nat → ClassId) (dI : Nat → Nat → Nat) (cI cJ cZ : ClassId) (sz : Nat) (ht ht_drops ht_tires ht_now ht_told ht_text ht_pages ht_row ht_alike ht_table ht_keys ht_own ht_isKept ht_kept : Nat) (a1 : Int32) (vt_clerks : Int32) (vt_length : Int32) (vt_acts : Int32) (vt_next : Int32) (vt_found : Int32) (vt_seed : Int64) (vt_now : Nat → Int32) (vt_row : Nat → Int32) (N : Nat) (R : Int32 × Int32 × Int32 × (Nat → Int32) × (Nat → Int32)) (hf : f_X6_reform N a1 vt_clerks vt_acts vt_next vt_now vt_row = some R) : Met l yX6_reform wsX6_reform (rm_X6_reform) (va_Pc [.ref ht, .int a1] (fun U => U.heap.size = sz ∧ va_P (dC, dI) vwCl [(ht, .inr (5, [.int vt_clerks, .ref ht_drops, .ref ht_tires, .ref ht_now, .ref ht_told, .ref ht_text, .int vt_length, .ref ht_pages, .int vt_acts, .int vt_next, .ref ht_row, .int vt_found, .ref ht_alike, .ref ht_table, .ref ht_keys, .ref ht_own, .long vt_seed, .ref ht_isKept, .ref ht_kept])), (ht_now, .inl (cI, 13, .inl vt_now)), (ht_row, .inl (cI, 208, .inl vt_row))] U.heap ∧ va_K (dC, dI) vwCl [(cI, .int), (cJ, .long), (cZ, .boolean)] U ∧ va_D (fun _ => True) [(ht, .inr (5, [.int vt_clerks, .ref ht_drops, .ref ht_tires, .ref ht_now, .ref ht_told, .ref ht_text, .int vt_length, .ref ht_pages, .int vt_acts, .int vt_next, .ref ht_row, .int vt_found, .ref ht_alike, .ref ht_table, .ref ht_keys, .ref ht_own, .long vt_seed, .ref ht_isKept, .ref ht_kept])), (ht_now, .inl (cI, 13, .inl vt_now)), (ht_row, .inl (cI, 208, .inl vt_row))])) (q_X6_reform dC dI cI cJ cZ ht ht_drops ht_tires ht_now ht_told ht_text ht_pages ht_row ht_alike ht_table ht_keys ht_own ht_isKept ht_kept vt_clerks vt_length vt_found vt_seed R (va_A [(ht, .inr (5, [.int vt_clerks, .ref ht_drops, .ref ht_tires, .ref ht_now, .ref ht_told, .ref ht_text, .int vt_length, .ref ht_pages, .int vt_acts, .int vt_next, .ref ht_row, .int vt_found, .ref ht_alike, .ref ht_table, .ref ht_keys, .ref ht_own, .long vt_seed, .ref ht_isKept, .ref ht_kept])), (ht_now, .inl (cI, 13, .inl vt_now)), (ht_row, .inl (cI, 208, .inl vt_row))] sz)) 0 0 (va_A [(ht, .inr (5, [.int vt_clerks, .ref ht_drops, .ref ht_tires, .ref ht_now, .ref ht_told, .ref ht_text, .int vt_length, .ref ht_pages, .int vt_acts, .int vt_next, .ref ht_row, .int vt_found, .ref ht_alike, .ref ht_table, .ref ht_keys, .ref ht_own, .long vt_seed, .ref ht_isKept, .ref ht_kept])), (ht_now, .inl (cI, 13, .inl vt_now)), (ht_row, .inl (cI, 208, .inl vt_row))] sz) := by
  refine Met.ofW (cc := cX6_reform) (maxL := 3) (ret := (some .int)) (by decide) rfl ?_
  intro p e s m args below meth c s₁ B hml hv
  obtain ⟨rfl, hsz, hP, hK, hD0⟩ := hv
  have hx := B.exec
  have hb := B.bytes
  have hr := B.returns
  have hts := atoms_spec (ws := wsX6_reform) B.pre
  have hown : s.vm.findClass RX6 = some m.cls := findClass_of_methodNamed B.named
  have hlocks := B.notSynchronized
  clear B
  subst hsz
  have hw0 := hts (.fieldLink RX6 16 "ShorthandCourtModel" "now" "[I") (by decide +kernel)
  have hinX6 : ∀ w ∈ u_ws RX6 TX6 19, w ∈ wsX6_reform := by decide +kernel
  have hD := hD0.self (sz := s.heap.size)
  clear hD0
  generalize hAe : va_A [(ht, .inr (5, [.int vt_clerks, .ref ht_drops, .ref ht_tires, .ref ht_now, .ref ht_told, .ref ht_text, .int vt_length, .ref ht_pages, .int vt_acts, .int vt_next, .ref ht_row, .int vt_found, .ref ht_alike, .ref ht_table, .ref ht_keys, .ref ht_own, .long vt_seed, .ref ht_isKept, .ref ht_kept])), (ht_now, .inl (cI, 13, .inl vt_now)), (ht_row, .inl (cI, 208, .inl vt_row))] s.heap.size = A at hD ⊢
  have hA : ∀ q : Nat, s.heap.size ≤ q → A q := fun q h => by rw [← hAe]; exact Or.inr h
  clear hAe
  have hS : va_S A s.heap s.heap [] := va_S.rf
  have hl := lv_entry ([.ref ht, .int a1]) (n := 3) (Nat.le_of_ble_eq_true rfl)
  rw [lg_entry_eq]
  generalize (lg_sl ([.ref ht, .int a1]) ++ List.replicate (3 - (lg_sl ([.ref ht, .int a1])).length) Slot.unset).toArray = ls at hl ⊢
  have hl : lv_has ls 3 [(0, .ref ht), (1, .int a1)] := hl
  unfold f_X6_reform at hf
  refine lv_aload_n hx hb dX6_reform_0 rfl (lv_at hl 0 rfl) ?_
  refine lv_iload_n hx hb dX6_reform_1 rfl (lv_at hl 1 rfl) ?_
  obtain ⟨x1, hx1, hf⟩ := dg_bind hf
  have hPc : va_P (dC, dI) vwCl [(ht, .inr (5, [.int vt_clerks, .ref ht_drops, .ref ht_tires, .ref ht_now, .ref ht_told, .ref ht_text, .int vt_length, .ref ht_pages, .int vt_acts, .int vt_next, .ref ht_row, .int vt_found, .ref ht_alike, .ref ht_table, .ref ht_keys, .ref ht_own, .long vt_seed, .ref ht_isKept, .ref ht_kept]))] s.heap := hP.sub [0] rfl
  have hDc : va_D A [(ht, .inr (5, [.int vt_clerks, .ref ht_drops, .ref ht_tires, .ref ht_now, .ref ht_told, .ref ht_text, .int vt_length, .ref ht_pages, .int vt_acts, .int vt_next, .ref ht_row, .int vt_found, .ref ht_alike, .ref ht_table, .ref ht_keys, .ref ht_own, .long vt_seed, .ref ht_isKept, .ref ht_kept]))] := hD.sub [0] (by decide) rfl
  have hFc := va_free (wc := [(ht, .inr (5, [.int vt_clerks, .ref ht_drops, .ref ht_tires, .ref ht_now, .ref ht_told, .ref ht_text, .int vt_length, .ref ht_pages, .int vt_acts, .int vt_next, .ref ht_row, .int vt_found, .ref ht_alike, .ref ht_table, .ref ht_keys, .ref ht_own, .long vt_seed, .ref ht_isKept, .ref ht_kept]))]) hD hS hA [0] rfl
  refine va_calli (va_runV (As := [.int a1]) (rest := []) ⟨hx, hb, hml, hown, hts⟩ (k_X6_isClerk l dC dI cI cJ cZ s.heap.size ht ht_drops ht_tires ht_now ht_told ht_text ht_pages ht_row ht_alike ht_table ht_keys ht_own ht_isKept ht_kept a1 vt_clerks vt_length vt_acts vt_next vt_found vt_seed N x1 hx1) (cwV 1 hts gX6_reform_X6_isClerk rfl rfl rfl hd_X6_isClerk ⟨Nat.le_of_ble_eq_true rfl, Nat.le_of_ble_eq_true rfl⟩) ⟨blind_pc, va_recv hK hPc (ci := 5) (q0 := 0) rfl rfl, pre_pc hPc hK hDc⟩ rfl rfl hl.1 rfl (lv_room (Nat.le_of_ble_eq_true rfl)) dX6_reform_2 ⟨Nat.zero_le _, Nat.zero_le _⟩) hS (fun q _ h => hFc q h) hFc (fun r u t H1 locs eth hvm hw hB hz1 hk1 hS => ?_)
  obtain ⟨hP1, hK1, hD1⟩ := hB
  rw [eth] at hP1
  subst hw
  obtain ⟨hP, hD⟩ := va_join (wr := [(ht_now, .inl (cI, 13, .inl vt_now)), (ht_row, .inl (cI, 208, .inl vt_row))]) (w1 := [(ht, .inr (5, [.int vt_clerks, .ref ht_drops, .ref ht_tires, .ref ht_now, .ref ht_told, .ref ht_text, .int vt_length, .ref ht_pages, .int vt_acts, .int vt_next, .ref ht_row, .int vt_found, .ref ht_alike, .ref ht_table, .ref ht_keys, .ref ht_own, .long vt_seed, .ref ht_isKept, .ref ht_kept]))]) hP hD [0] [1, 2] rfl rfl (by decide) (by decide) hk1 hFc hP1 hD1
  clear hP1 hK1 hD1 hPc hDc hFc hk1 hz1 hvm eth
  generalize H1 = H at hP hS ⊢
  have hP : va_P (dC, dI) vwCl [(ht_now, .inl (cI, 13, .inl vt_now)), (ht_row, .inl (cI, 208, .inl vt_row)), (ht, .inr (5, [.int vt_clerks, .ref ht_drops, .ref ht_tires, .ref ht_now, .ref ht_told, .ref ht_text, .int vt_length, .ref ht_pages, .int vt_acts, .int vt_next, .ref ht_row, .int vt_found, .ref ht_alike, .ref ht_table, .ref ht_keys, .ref ht_own, .long vt_seed, .ref ht_isKept, .ref ht_kept]))] H := hP
  have hD : va_D A [(ht_now, .inl (cI, 13, .inl vt_now)), (ht_row, .inl (cI, 208, .inl vt_row)), (ht, .inr (5, [.int vt_clerks, .ref ht_drops, .ref ht_tires, .ref ht_now, .ref ht_told, .ref ht_text, .int vt_length, .ref ht_pages, .int vt_acts, .int vt_next, .ref ht_row, .int vt_found, .ref ht_alike, .ref ht_table, .ref ht_keys, .ref ht_own, .long vt_seed, .ref ht_isKept, .ref ht_kept]))] := hD
  refine lv_if_ne (tgt := 10) hx hb dX6_reform_5 (by decide) (fun c2 => ?_) (fun c2 => ?_)
  · replace hf := dg_f c2 hf
    refine lv_aload_n hx hb dX6_reform_10 rfl (lv_at hl 0 rfl) ?_
    refine va_get (D := (dC, dI)) (ci := 5) (v := .ref ht_now) (C := RX6) (T := TX6) (N := 19) hx hb hts hinX6 hown hK hP 2 rfl rfl 3 (by decide) hw0 (fun _ h9 => h9) rfl dX6_reform_11 ?_
    refine lv_iconst (v := 1) hx hb dX6_reform_14 (by decide) ?_
    refine lv_iload_n hx hb dX6_reform_15 rfl (lv_at hl 1 rfl) ?_
    refine lv_iadd hx hb dX6_reform_16 ?_
    obtain ⟨hi3, hf⟩ := dg_ix hf
    refine va_iald hx hb hK hP 0 0 rfl rfl hi3 dX6_reform_17 ?_
    refine lv_bipush (v := -9) hx hb dX6_reform_18 (by decide) ?_
    refine lv_icmp_ne (tgt := 26) hx hb dX6_reform_20 (by decide) (fun c4 => ?_) (fun c4 => ?_)
    · replace hf := dg_f c4 hf
      refine lv_aload_n hx hb dX6_reform_26 rfl (lv_at hl 0 rfl) ?_
      obtain ⟨x5, hx5, hf⟩ := dg_bind hf
      have hPc : va_P (dC, dI) vwCl [(ht, .inr (5, [.int vt_clerks, .ref ht_drops, .ref ht_tires, .ref ht_now, .ref ht_told, .ref ht_text, .int vt_length, .ref ht_pages, .int vt_acts, .int vt_next, .ref ht_row, .int vt_found, .ref ht_alike, .ref ht_table, .ref ht_keys, .ref ht_own, .long vt_seed, .ref ht_isKept, .ref ht_kept])), (ht_now, .inl (cI, 13, .inl vt_now)), (ht_row, .inl (cI, 208, .inl vt_row))] H := hP.sub [2, 0, 1] rfl
      have hDc : va_D A [(ht, .inr (5, [.int vt_clerks, .ref ht_drops, .ref ht_tires, .ref ht_now, .ref ht_told, .ref ht_text, .int vt_length, .ref ht_pages, .int vt_acts, .int vt_next, .ref ht_row, .int vt_found, .ref ht_alike, .ref ht_table, .ref ht_keys, .ref ht_own, .long vt_seed, .ref ht_isKept, .ref ht_kept])), (ht_now, .inl (cI, 13, .inl vt_now)), (ht_row, .inl (cI, 208, .inl vt_row))] := hD.sub [2, 0, 1] (by decide) rfl
      have hFc := va_free (wc := [(ht, .inr (5, [.int vt_clerks, .ref ht_drops, .ref ht_tires, .ref ht_now, .ref ht_told, .ref ht_text, .int vt_length, .ref ht_pages, .int vt_acts, .int vt_next, .ref ht_row, .int vt_found, .ref ht_alike, .ref ht_table, .ref ht_keys, .ref ht_own, .long vt_seed, .ref ht_isKept, .ref ht_kept])), (ht_now, .inl (cI, 13, .inl vt_now)), (ht_row, .inl (cI, 208, .inl vt_row))]) hD hS hA [2, 0, 1] rfl
      refine va_callv (va_runV (As := []) (rest := []) ⟨hx, hb, hml, hown, hts⟩ (k_X6_keepAct l dC dI cI cJ cZ H.size ht ht_drops ht_tires ht_now ht_told ht_text ht_pages ht_row ht_alike ht_table ht_keys ht_own ht_isKept ht_kept vt_clerks vt_length vt_acts vt_next vt_found vt_seed vt_now vt_row N x5 hx5) (cwV 0 hts gX6_reform_X6_keepAct rfl rfl rfl hd_X6_keepAct ⟨Nat.le_of_ble_eq_true rfl, Nat.le_of_ble_eq_true rfl⟩) ⟨blind_pc, va_recv hK hPc (ci := 5) (q0 := 0) rfl rfl, pre_pc hPc hK hDc⟩ rfl rfl hl.1 rfl (lv_room (Nat.le_of_ble_eq_true rfl)) dX6_reform_27 ⟨Nat.zero_le _, Nat.zero_le _⟩) hS (fun q _ h => hFc q h) hFc (fun u t H1 locs eth hvm hw hB hz1 hk1 hS => ?_)
      obtain ⟨hP1, hK1, hD1⟩ := hB
      rw [eth] at hP1
      subst hw
      obtain ⟨hP, hD⟩ := va_join (wr := []) (w1 := [(ht, .inr (5, [.int vt_clerks, .ref ht_drops, .ref ht_tires, .ref ht_now, .ref ht_told, .ref ht_text, .int vt_length, .ref ht_pages, .int x5.1, .int x5.2.1, .ref ht_row, .int vt_found, .ref ht_alike, .ref ht_table, .ref ht_keys, .ref ht_own, .long vt_seed, .ref ht_isKept, .ref ht_kept])), (ht_now, .inl (cI, 13, .inl vt_now)), (ht_row, .inl (cI, 208, .inl x5.2.2))]) hP hD [2, 0, 1] [] rfl rfl (by decide) (by decide) hk1 hFc hP1 hD1
      clear hP1 hK1 hD1 hPc hDc hFc hk1 hz1 hvm eth
      generalize H1 = H at hP hS ⊢
      have hP : va_P (dC, dI) vwCl [(ht, .inr (5, [.int vt_clerks, .ref ht_drops, .ref ht_tires, .ref ht_now, .ref ht_told, .ref ht_text, .int vt_length, .ref ht_pages, .int x5.1, .int x5.2.1, .ref ht_row, .int vt_found, .ref ht_alike, .ref ht_table, .ref ht_keys, .ref ht_own, .long vt_seed, .ref ht_isKept, .ref ht_kept])), (ht_now, .inl (cI, 13, .inl vt_now)), (ht_row, .inl (cI, 208, .inl x5.2.2))] H := hP
      have hD : va_D A [(ht, .inr (5, [.int vt_clerks, .ref ht_drops, .ref ht_tires, .ref ht_now, .ref ht_told, .ref ht_text, .int vt_length, .ref ht_pages, .int x5.1, .int x5.2.1, .ref ht_row, .int vt_found, .ref ht_alike, .ref ht_table, .ref ht_keys, .ref ht_own, .long vt_seed, .ref ht_isKept, .ref ht_kept])), (ht_now, .inl (cI, 13, .inl vt_now)), (ht_row, .inl (cI, 208, .inl x5.2.2))] := hD
      refine lv_aload_n hx hb dX6_reform_30 rfl (lv_at hl 0 rfl) ?_
      refine va_get (D := (dC, dI)) (ci := 5) (v := .ref ht_now) (C := RX6) (T := TX6) (N := 19) hx hb hts hinX6 hown hK hP 0 rfl rfl 3 (by decide) hw0 (fun _ h9 => h9) rfl dX6_reform_31 ?_
      refine lv_iconst (v := 1) hx hb dX6_reform_34 (by decide) ?_
      refine lv_iload_n hx hb dX6_reform_35 rfl (lv_at hl 1 rfl) ?_
      refine lv_iadd hx hb dX6_reform_36 ?_
      obtain ⟨hi6, hf⟩ := dg_ix hf
      refine va_iald hx hb hK hP 1 0 rfl rfl hi6 dX6_reform_37 ?_
      refine lv_istore_n (lv' := [(2, .int (vt_now ((1:Int32) + a1).toNatClampNeg)), (0, .ref ht), (1, .int a1)]) hx hb dX6_reform_38 rfl hl (by decide) rfl (fun ls hl => ?_)
      refine lv_aload_n hx hb dX6_reform_39 rfl (lv_at hl 1 rfl) ?_
      refine va_get (D := (dC, dI)) (ci := 5) (v := .ref ht_now) (C := RX6) (T := TX6) (N := 19) hx hb hts hinX6 hown hK hP 0 rfl rfl 3 (by decide) hw0 (fun _ h9 => h9) rfl dX6_reform_40 ?_
      refine lv_iconst (v := 1) hx hb dX6_reform_43 (by decide) ?_
      refine lv_iload_n hx hb dX6_reform_44 rfl (lv_at hl 2 rfl) ?_
      refine lv_iadd hx hb dX6_reform_45 ?_
      refine lv_bipush (v := -9) hx hb dX6_reform_46 (by decide) ?_
      obtain ⟨hi7, hf⟩ := dg_ix hf
      refine va_iast hx hb hK hP hD hS 1 0 rfl rfl hi7 dX6_reform_48 (fun H locs hP hD hS => ?_)
      have hP : va_P (dC, dI) vwCl [(ht, .inr (5, [.int vt_clerks, .ref ht_drops, .ref ht_tires, .ref ht_now, .ref ht_told, .ref ht_text, .int vt_length, .ref ht_pages, .int x5.1, .int x5.2.1, .ref ht_row, .int vt_found, .ref ht_alike, .ref ht_table, .ref ht_keys, .ref ht_own, .long vt_seed, .ref ht_isKept, .ref ht_kept])), (ht_now, .inl (cI, 13, .inl (upd vt_now ((1:Int32) + a1).toNatClampNeg (-9:Int32)))), (ht_row, .inl (cI, 208, .inl x5.2.2))] H := hP
      have hD : va_D A [(ht, .inr (5, [.int vt_clerks, .ref ht_drops, .ref ht_tires, .ref ht_now, .ref ht_told, .ref ht_text, .int vt_length, .ref ht_pages, .int x5.1, .int x5.2.1, .ref ht_row, .int vt_found, .ref ht_alike, .ref ht_table, .ref ht_keys, .ref ht_own, .long vt_seed, .ref ht_isKept, .ref ht_kept])), (ht_now, .inl (cI, 13, .inl (upd vt_now ((1:Int32) + a1).toNatClampNeg (-9:Int32)))), (ht_row, .inl (cI, 208, .inl x5.2.2))] := hD
      refine lv_aload_n hx hb dX6_reform_49 rfl (lv_at hl 1 rfl) ?_
      refine va_get (D := (dC, dI)) (ci := 5) (v := .ref ht_now) (C := RX6) (T := TX6) (N := 19) hx hb hts hinX6 hown hK hP 0 rfl rfl 3 (by decide) hw0 (fun _ h9 => h9) rfl dX6_reform_50 ?_
      refine lv_iconst (v := 5) hx hb dX6_reform_53 (by decide) ?_
      refine lv_iload_n hx hb dX6_reform_54 rfl (lv_at hl 2 rfl) ?_
      refine lv_iadd hx hb dX6_reform_55 ?_
      refine lv_bipush (v := -9) hx hb dX6_reform_56 (by decide) ?_
      obtain ⟨hi8, hf⟩ := dg_ix hf
      refine va_iast hx hb hK hP hD hS 1 0 rfl rfl hi8 dX6_reform_58 (fun H locs hP hD hS => ?_)
      have hP : va_P (dC, dI) vwCl [(ht, .inr (5, [.int vt_clerks, .ref ht_drops, .ref ht_tires, .ref ht_now, .ref ht_told, .ref ht_text, .int vt_length, .ref ht_pages, .int x5.1, .int x5.2.1, .ref ht_row, .int vt_found, .ref ht_alike, .ref ht_table, .ref ht_keys, .ref ht_own, .long vt_seed, .ref ht_isKept, .ref ht_kept])), (ht_now, .inl (cI, 13, .inl (upd (upd vt_now ((1:Int32) + a1).toNatClampNeg (-9:Int32)) ((5:Int32) + a1).toNatClampNeg (-9:Int32)))), (ht_row, .inl (cI, 208, .inl x5.2.2))] H := hP
      have hD : va_D A [(ht, .inr (5, [.int vt_clerks, .ref ht_drops, .ref ht_tires, .ref ht_now, .ref ht_told, .ref ht_text, .int vt_length, .ref ht_pages, .int x5.1, .int x5.2.1, .ref ht_row, .int vt_found, .ref ht_alike, .ref ht_table, .ref ht_keys, .ref ht_own, .long vt_seed, .ref ht_isKept, .ref ht_kept])), (ht_now, .inl (cI, 13, .inl (upd (upd vt_now ((1:Int32) + a1).toNatClampNeg (-9:Int32)) ((5:Int32) + a1).toNatClampNeg (-9:Int32)))), (ht_row, .inl (cI, 208, .inl x5.2.2))] := hD
      refine lv_iload_n hx hb dX6_reform_59 rfl (lv_at hl 0 rfl) ?_
      have he := Option.some.inj hf
      have hP9 := hP
      have hD9 := hD
      exact W.iret (v := (vt_now ((1:Int32) + a1).toNatClampNeg)) hx hb hr (fun t eth hW => ⟨⟨(vt_now ((1:Int32) + a1).toNatClampNeg), (x5.1, x5.2.1, (upd (upd vt_now ((1:Int32) + a1).toNatClampNeg (-9:Int32)) ((5:Int32) + a1).toNatClampNeg (-9:Int32)), x5.2.2), rfl, ⟨(congrArg Prod.fst he).symm, (congrArg Prod.snd he).symm⟩, by rw [eth]; exact hP9, va_K.moved hW.alike hK, hD9⟩, hS.F eth⟩) hS.2.2 dX6_reform_60
    · replace hf := dg_t c4 hf
      refine lv_bipush (v := -3) hx hb dX6_reform_23 (by decide) ?_
      have he := Option.some.inj hf
      have hP9 := (hP.sub (ws' := [(ht, .inr (5, [.int vt_clerks, .ref ht_drops, .ref ht_tires, .ref ht_now, .ref ht_told, .ref ht_text, .int vt_length, .ref ht_pages, .int vt_acts, .int vt_next, .ref ht_row, .int vt_found, .ref ht_alike, .ref ht_table, .ref ht_keys, .ref ht_own, .long vt_seed, .ref ht_isKept, .ref ht_kept])), (ht_now, .inl (cI, 13, .inl vt_now)), (ht_row, .inl (cI, 208, .inl vt_row))]) [2, 0, 1] rfl)
      have hD9 := (hD.sub (ws' := [(ht, .inr (5, [.int vt_clerks, .ref ht_drops, .ref ht_tires, .ref ht_now, .ref ht_told, .ref ht_text, .int vt_length, .ref ht_pages, .int vt_acts, .int vt_next, .ref ht_row, .int vt_found, .ref ht_alike, .ref ht_table, .ref ht_keys, .ref ht_own, .long vt_seed, .ref ht_isKept, .ref ht_kept])), (ht_now, .inl (cI, 13, .inl vt_now)), (ht_row, .inl (cI, 208, .inl vt_row))]) [2, 0, 1] (by decide) rfl)
      exact W.iret (v := (-3:Int32)) hx hb hr (fun t eth hW => ⟨⟨(-3:Int32), (vt_acts, vt_next, vt_now, vt_row), rfl, ⟨(congrArg Prod.fst he).symm, (congrArg Prod.snd he).symm⟩, by rw [eth]; exact hP9, va_K.moved hW.alike hK, hD9⟩, hS.F eth⟩) hS.2.2 dX6_reform_25
  · replace hf := dg_t c2 hf
    refine lv_iconst (v := -1) hx hb dX6_reform_8 (by decide) ?_
    have he := Option.some.inj hf
    have hP9 := (hP.sub (ws' := [(ht, .inr (5, [.int vt_clerks, .ref ht_drops, .ref ht_tires, .ref ht_now, .ref ht_told, .ref ht_text, .int vt_length, .ref ht_pages, .int vt_acts, .int vt_next, .ref ht_row, .int vt_found, .ref ht_alike, .ref ht_table, .ref ht_keys, .ref ht_own, .long vt_seed, .ref ht_isKept, .ref ht_kept])), (ht_now, .inl (cI, 13, .inl vt_now)), (ht_row, .inl (cI, 208, .inl vt_row))]) [2, 0, 1] rfl)
    have hD9 := (hD.sub (ws' := [(ht, .inr (5, [.int vt_clerks, .ref ht_drops, .ref ht_tires, .ref ht_now, .ref ht_told, .ref ht_text, .int vt_length, .ref ht_pages, .int vt_acts, .int vt_next, .ref ht_row, .int vt_found, .ref ht_alike, .ref ht_table, .ref ht_keys, .ref ht_own, .long vt_seed, .ref ht_isKept, .ref ht_kept])), (ht_now, .inl (cI, 13, .inl vt_now)), (ht_row, .inl (cI, 208, .inl vt_row))]) [2, 0, 1] (by decide) rfl)
    exact W.iret (v := (-1:Int32)) hx hb hr (fun t eth hW => ⟨⟨(-1:Int32), (vt_acts, vt_next, vt_now, vt_row), rfl, ⟨(congrArg Prod.fst he).symm, (congrArg Prod.snd he).symm⟩, by rw [eth]; exact hP9, va_K.moved hW.alike hK, hD9⟩, hS.F eth⟩) hS.2.2 dX6_reform_9
theorem hd_X6_seat : yX6_seat.cls = RX6 ∧ yX6_seat.cls ≠ "java/lang/invoke/MethodHandle" ∧ yX6_seat.cls ≠ "java/lang/invoke/VarHandle" ∧ (parseMethodDescriptor yX6_seat.desc).map (fun d => d.parameters.length) = some 2 := by decide +kernel
abbrev rm_X6_seat : Room := { frames := 2, cells := 0, slots := 0, locals := 46 }
abbrev q_X6_seat (dC : Nat → ClassId) (dI : Nat → Nat → Nat) (cI cJ cZ : ClassId) (ht ht_drops ht_tires ht_now ht_told ht_text ht_pages ht_row ht_alike ht_table ht_keys ht_own ht_isKept ht_kept : Nat) (vt_clerks : Int32) (vt_length : Int32) (vt_found : Int32) (vt_seed : Int64) (R : Int32 × Int32 × Int32 × (Nat → Int32) × (Nat → Int32)) (A : Nat → Prop) : Array Value → State → Outcome → State → Prop := va_Qi (fun (r : Int32) (u : Int32 × Int32 × (Nat → Int32) × (Nat → Int32)) => R.1 = r ∧ R.2 = u) (fun (u : Int32 × Int32 × (Nat → Int32) × (Nat → Int32)) (t : State) => va_P (dC, dI) vwCl [(ht, .inr (5, [.int vt_clerks, .ref ht_drops, .ref ht_tires, .ref ht_now, .ref ht_told, .ref ht_text, .int vt_length, .ref ht_pages, .int u.1, .int u.2.1, .ref ht_row, .int vt_found, .ref ht_alike, .ref ht_table, .ref ht_keys, .ref ht_own, .long vt_seed, .ref ht_isKept, .ref ht_kept])), (ht_now, .inl (cI, 13, .inl u.2.2.1)), (ht_row, .inl (cI, 208, .inl u.2.2.2))] t.heap ∧ va_K (dC, dI) vwCl [(cI, .int), (cJ, .long), (cZ, .boolean)] t ∧ va_D A [(ht, .inr (5, [.int vt_clerks, .ref ht_drops, .ref ht_tires, .ref ht_now, .ref ht_told, .ref ht_text, .int vt_length, .ref ht_pages, .int u.1, .int u.2.1, .ref ht_row, .int vt_found, .ref ht_alike, .ref ht_table, .ref ht_keys, .ref ht_own, .long vt_seed, .ref ht_isKept, .ref ht_kept])), (ht_now, .inl (cI, 13, .inl u.2.2.1)), (ht_row, .inl (cI, 208, .inl u.2.2.2))]) A
set_option maxHeartbeats 4000000 in
set_option maxRecDepth 100000 in
theorem k_X6_seat (l : Launch) (dC : Nat → ClassId) (dI : Nat → Nat → Nat) (cI cJ cZ : ClassId) (sz : Nat) (ht ht_drops ht_tires ht_now ht_told ht_text ht_pages ht_row ht_alike ht_table ht_keys ht_own ht_isKept ht_kept : Nat) (a1 : Int32) (a2 : Int32) (vt_clerks : Int32) (vt_length : Int32) (vt_acts : Int32) (vt_next : Int32) (vt_found : Int32) (vt_seed : Int64) (vt_now : Nat → Int32) (vt_row : Nat → Int32) (N : Nat) (R : Int32 × Int32 × Int32 × (Nat → Int32) × (Nat → Int32)) (hf : f_X6_seat N a1 a2 vt_clerks vt_acts vt_next vt_now vt_row = some R) : Met l yX6_seat wsX6_seat (rm_X6_seat) (va_Pc [.ref ht, .int a1, .int a2] (fun U => U.heap.size = sz ∧ va_P (dC, dI) vwCl [(ht, .inr (5, [.int vt_clerks, .ref ht_drops, .ref ht_tires, .ref ht_now, .ref ht_told, .ref ht_text, .int vt_length, .ref ht_pages, .int vt_acts, .int vt_next, .ref ht_row, .int vt_found, .ref ht_alike, .ref ht_table, .ref ht_keys, .ref ht_own, .long vt_seed, .ref ht_isKept, .ref ht_kept])), (ht_now, .inl (cI, 13, .inl vt_now)), (ht_row, .inl (cI, 208, .inl vt_row))] U.heap ∧ va_K (dC, dI) vwCl [(cI, .int), (cJ, .long), (cZ, .boolean)] U ∧ va_D (fun _ => True) [(ht, .inr (5, [.int vt_clerks, .ref ht_drops, .ref ht_tires, .ref ht_now, .ref ht_told, .ref ht_text, .int vt_length, .ref ht_pages, .int vt_acts, .int vt_next, .ref ht_row, .int vt_found, .ref ht_alike, .ref ht_table, .ref ht_keys, .ref ht_own, .long vt_seed, .ref ht_isKept, .ref ht_kept])), (ht_now, .inl (cI, 13, .inl vt_now)), (ht_row, .inl (cI, 208, .inl vt_row))])) (q_X6_seat dC dI cI cJ cZ ht ht_drops ht_tires ht_now ht_told ht_text ht_pages ht_row ht_alike ht_table ht_keys ht_own ht_isKept ht_kept vt_clerks vt_length vt_found vt_seed R (va_A [(ht, .inr (5, [.int vt_clerks, .ref ht_drops, .ref ht_tires, .ref ht_now, .ref ht_told, .ref ht_text, .int vt_length, .ref ht_pages, .int vt_acts, .int vt_next, .ref ht_row, .int vt_found, .ref ht_alike, .ref ht_table, .ref ht_keys, .ref ht_own, .long vt_seed, .ref ht_isKept, .ref ht_kept])), (ht_now, .inl (cI, 13, .inl vt_now)), (ht_row, .inl (cI, 208, .inl vt_row))] sz)) 0 0 (va_A [(ht, .inr (5, [.int vt_clerks, .ref ht_drops, .ref ht_tires, .ref ht_now, .ref ht_told, .ref ht_text, .int vt_length, .ref ht_pages, .int vt_acts, .int vt_next, .ref ht_row, .int vt_found, .ref ht_alike, .ref ht_table, .ref ht_keys, .ref ht_own, .long vt_seed, .ref ht_isKept, .ref ht_kept])), (ht_now, .inl (cI, 13, .inl vt_now)), (ht_row, .inl (cI, 208, .inl vt_row))] sz) := by
  refine Met.ofW (cc := cX6_seat) (maxL := 4) (ret := (some .int)) (by decide) rfl ?_
  intro p e s m args below meth c s₁ B hml hv
  obtain ⟨rfl, hsz, hP, hK, hD0⟩ := hv
  have hx := B.exec
  have hb := B.bytes
  have hr := B.returns
  have hts := atoms_spec (ws := wsX6_seat) B.pre
  have hown : s.vm.findClass RX6 = some m.cls := findClass_of_methodNamed B.named
  have hlocks := B.notSynchronized
  clear B
  subst hsz
  have hw0 := hts (.fieldLink RX6 16 "ShorthandCourtModel" "now" "[I") (by decide +kernel)
  have hinX6 : ∀ w ∈ u_ws RX6 TX6 19, w ∈ wsX6_seat := by decide +kernel
  have hD := hD0.self (sz := s.heap.size)
  clear hD0
  generalize hAe : va_A [(ht, .inr (5, [.int vt_clerks, .ref ht_drops, .ref ht_tires, .ref ht_now, .ref ht_told, .ref ht_text, .int vt_length, .ref ht_pages, .int vt_acts, .int vt_next, .ref ht_row, .int vt_found, .ref ht_alike, .ref ht_table, .ref ht_keys, .ref ht_own, .long vt_seed, .ref ht_isKept, .ref ht_kept])), (ht_now, .inl (cI, 13, .inl vt_now)), (ht_row, .inl (cI, 208, .inl vt_row))] s.heap.size = A at hD ⊢
  have hA : ∀ q : Nat, s.heap.size ≤ q → A q := fun q h => by rw [← hAe]; exact Or.inr h
  clear hAe
  have hS : va_S A s.heap s.heap [] := va_S.rf
  have hl := lv_entry ([.ref ht, .int a1, .int a2]) (n := 4) (Nat.le_of_ble_eq_true rfl)
  rw [lg_entry_eq]
  generalize (lg_sl ([.ref ht, .int a1, .int a2]) ++ List.replicate (4 - (lg_sl ([.ref ht, .int a1, .int a2])).length) Slot.unset).toArray = ls at hl ⊢
  have hl : lv_has ls 4 [(0, .ref ht), (1, .int a1), (2, .int a2)] := hl
  unfold f_X6_seat at hf
  refine lv_aload_n hx hb dX6_seat_0 rfl (lv_at hl 0 rfl) ?_
  refine lv_iload_n hx hb dX6_seat_1 rfl (lv_at hl 1 rfl) ?_
  obtain ⟨x1, hx1, hf⟩ := dg_bind hf
  have hPc : va_P (dC, dI) vwCl [(ht, .inr (5, [.int vt_clerks, .ref ht_drops, .ref ht_tires, .ref ht_now, .ref ht_told, .ref ht_text, .int vt_length, .ref ht_pages, .int vt_acts, .int vt_next, .ref ht_row, .int vt_found, .ref ht_alike, .ref ht_table, .ref ht_keys, .ref ht_own, .long vt_seed, .ref ht_isKept, .ref ht_kept]))] s.heap := hP.sub [0] rfl
  have hDc : va_D A [(ht, .inr (5, [.int vt_clerks, .ref ht_drops, .ref ht_tires, .ref ht_now, .ref ht_told, .ref ht_text, .int vt_length, .ref ht_pages, .int vt_acts, .int vt_next, .ref ht_row, .int vt_found, .ref ht_alike, .ref ht_table, .ref ht_keys, .ref ht_own, .long vt_seed, .ref ht_isKept, .ref ht_kept]))] := hD.sub [0] (by decide) rfl
  have hFc := va_free (wc := [(ht, .inr (5, [.int vt_clerks, .ref ht_drops, .ref ht_tires, .ref ht_now, .ref ht_told, .ref ht_text, .int vt_length, .ref ht_pages, .int vt_acts, .int vt_next, .ref ht_row, .int vt_found, .ref ht_alike, .ref ht_table, .ref ht_keys, .ref ht_own, .long vt_seed, .ref ht_isKept, .ref ht_kept]))]) hD hS hA [0] rfl
  refine va_calli (va_runV (As := [.int a1]) (rest := []) ⟨hx, hb, hml, hown, hts⟩ (k_X6_isClerk l dC dI cI cJ cZ s.heap.size ht ht_drops ht_tires ht_now ht_told ht_text ht_pages ht_row ht_alike ht_table ht_keys ht_own ht_isKept ht_kept a1 vt_clerks vt_length vt_acts vt_next vt_found vt_seed N x1 hx1) (cwV 1 hts gX6_seat_X6_isClerk rfl rfl rfl hd_X6_isClerk ⟨Nat.le_of_ble_eq_true rfl, Nat.le_of_ble_eq_true rfl⟩) ⟨blind_pc, va_recv hK hPc (ci := 5) (q0 := 0) rfl rfl, pre_pc hPc hK hDc⟩ rfl rfl hl.1 rfl (lv_room (Nat.le_of_ble_eq_true rfl)) dX6_seat_2 ⟨Nat.zero_le _, Nat.zero_le _⟩) hS (fun q _ h => hFc q h) hFc (fun r u t H1 locs eth hvm hw hB hz1 hk1 hS => ?_)
  obtain ⟨hP1, hK1, hD1⟩ := hB
  rw [eth] at hP1
  subst hw
  obtain ⟨hP, hD⟩ := va_join (wr := [(ht_now, .inl (cI, 13, .inl vt_now)), (ht_row, .inl (cI, 208, .inl vt_row))]) (w1 := [(ht, .inr (5, [.int vt_clerks, .ref ht_drops, .ref ht_tires, .ref ht_now, .ref ht_told, .ref ht_text, .int vt_length, .ref ht_pages, .int vt_acts, .int vt_next, .ref ht_row, .int vt_found, .ref ht_alike, .ref ht_table, .ref ht_keys, .ref ht_own, .long vt_seed, .ref ht_isKept, .ref ht_kept]))]) hP hD [0] [1, 2] rfl rfl (by decide) (by decide) hk1 hFc hP1 hD1
  clear hP1 hK1 hD1 hPc hDc hFc hk1 hz1 hvm eth
  generalize H1 = H at hP hS ⊢
  have hP : va_P (dC, dI) vwCl [(ht_now, .inl (cI, 13, .inl vt_now)), (ht_row, .inl (cI, 208, .inl vt_row)), (ht, .inr (5, [.int vt_clerks, .ref ht_drops, .ref ht_tires, .ref ht_now, .ref ht_told, .ref ht_text, .int vt_length, .ref ht_pages, .int vt_acts, .int vt_next, .ref ht_row, .int vt_found, .ref ht_alike, .ref ht_table, .ref ht_keys, .ref ht_own, .long vt_seed, .ref ht_isKept, .ref ht_kept]))] H := hP
  have hD : va_D A [(ht_now, .inl (cI, 13, .inl vt_now)), (ht_row, .inl (cI, 208, .inl vt_row)), (ht, .inr (5, [.int vt_clerks, .ref ht_drops, .ref ht_tires, .ref ht_now, .ref ht_told, .ref ht_text, .int vt_length, .ref ht_pages, .int vt_acts, .int vt_next, .ref ht_row, .int vt_found, .ref ht_alike, .ref ht_table, .ref ht_keys, .ref ht_own, .long vt_seed, .ref ht_isKept, .ref ht_kept]))] := hD
  refine lv_if_ne (tgt := 10) hx hb dX6_seat_5 (by decide) (fun c2 => ?_) (fun c2 => ?_)
  · replace hf := dg_f c2 hf
    refine lv_iload_n hx hb dX6_seat_10 rfl (lv_at hl 2 rfl) ?_
    refine lv_bipush (v := -9) hx hb dX6_seat_11 (by decide) ?_
    refine lv_icmp_eq (tgt := 32) hx hb dX6_seat_13 (by decide) (fun c3 => ?_) (fun c3 => ?_)
    · replace hf := dg_t c3 hf
      refine lv_aload_n hx hb dX6_seat_32 rfl (lv_at hl 0 rfl) ?_
      refine va_get (D := (dC, dI)) (ci := 5) (v := .ref ht_now) (C := RX6) (T := TX6) (N := 19) hx hb hts hinX6 hown hK hP 2 rfl rfl 3 (by decide) hw0 (fun _ h9 => h9) rfl dX6_seat_33 ?_
      refine lv_bipush (v := 9) hx hb dX6_seat_36 (by decide) ?_
      refine lv_iload_n hx hb dX6_seat_38 rfl (lv_at hl 1 rfl) ?_
      refine lv_iadd hx hb dX6_seat_39 ?_
      obtain ⟨hi4, hf⟩ := dg_ix hf
      refine va_iald hx hb hK hP 0 0 rfl rfl hi4 dX6_seat_40 ?_
      refine lv_iload_n hx hb dX6_seat_41 rfl (lv_at hl 2 rfl) ?_
      refine lv_icmp_ne (tgt := 48) hx hb dX6_seat_42 (by decide) (fun c5 => ?_) (fun c5 => ?_)
      · replace hf := dg_f c5 hf
        refine lv_aload_n hx hb dX6_seat_48 rfl (lv_at hl 0 rfl) ?_
        obtain ⟨x6, hx6, hf⟩ := dg_bind hf
        have hPc : va_P (dC, dI) vwCl [(ht, .inr (5, [.int vt_clerks, .ref ht_drops, .ref ht_tires, .ref ht_now, .ref ht_told, .ref ht_text, .int vt_length, .ref ht_pages, .int vt_acts, .int vt_next, .ref ht_row, .int vt_found, .ref ht_alike, .ref ht_table, .ref ht_keys, .ref ht_own, .long vt_seed, .ref ht_isKept, .ref ht_kept])), (ht_now, .inl (cI, 13, .inl vt_now)), (ht_row, .inl (cI, 208, .inl vt_row))] H := hP.sub [2, 0, 1] rfl
        have hDc : va_D A [(ht, .inr (5, [.int vt_clerks, .ref ht_drops, .ref ht_tires, .ref ht_now, .ref ht_told, .ref ht_text, .int vt_length, .ref ht_pages, .int vt_acts, .int vt_next, .ref ht_row, .int vt_found, .ref ht_alike, .ref ht_table, .ref ht_keys, .ref ht_own, .long vt_seed, .ref ht_isKept, .ref ht_kept])), (ht_now, .inl (cI, 13, .inl vt_now)), (ht_row, .inl (cI, 208, .inl vt_row))] := hD.sub [2, 0, 1] (by decide) rfl
        have hFc := va_free (wc := [(ht, .inr (5, [.int vt_clerks, .ref ht_drops, .ref ht_tires, .ref ht_now, .ref ht_told, .ref ht_text, .int vt_length, .ref ht_pages, .int vt_acts, .int vt_next, .ref ht_row, .int vt_found, .ref ht_alike, .ref ht_table, .ref ht_keys, .ref ht_own, .long vt_seed, .ref ht_isKept, .ref ht_kept])), (ht_now, .inl (cI, 13, .inl vt_now)), (ht_row, .inl (cI, 208, .inl vt_row))]) hD hS hA [2, 0, 1] rfl
        refine va_callv (va_runV (As := []) (rest := []) ⟨hx, hb, hml, hown, hts⟩ (k_X6_keepAct l dC dI cI cJ cZ H.size ht ht_drops ht_tires ht_now ht_told ht_text ht_pages ht_row ht_alike ht_table ht_keys ht_own ht_isKept ht_kept vt_clerks vt_length vt_acts vt_next vt_found vt_seed vt_now vt_row N x6 hx6) (cwV 0 hts gX6_seat_X6_keepAct rfl rfl rfl hd_X6_keepAct ⟨Nat.le_of_ble_eq_true rfl, Nat.le_of_ble_eq_true rfl⟩) ⟨blind_pc, va_recv hK hPc (ci := 5) (q0 := 0) rfl rfl, pre_pc hPc hK hDc⟩ rfl rfl hl.1 rfl (lv_room (Nat.le_of_ble_eq_true rfl)) dX6_seat_49 ⟨Nat.zero_le _, Nat.zero_le _⟩) hS (fun q _ h => hFc q h) hFc (fun u t H1 locs eth hvm hw hB hz1 hk1 hS => ?_)
        obtain ⟨hP1, hK1, hD1⟩ := hB
        rw [eth] at hP1
        subst hw
        obtain ⟨hP, hD⟩ := va_join (wr := []) (w1 := [(ht, .inr (5, [.int vt_clerks, .ref ht_drops, .ref ht_tires, .ref ht_now, .ref ht_told, .ref ht_text, .int vt_length, .ref ht_pages, .int x6.1, .int x6.2.1, .ref ht_row, .int vt_found, .ref ht_alike, .ref ht_table, .ref ht_keys, .ref ht_own, .long vt_seed, .ref ht_isKept, .ref ht_kept])), (ht_now, .inl (cI, 13, .inl vt_now)), (ht_row, .inl (cI, 208, .inl x6.2.2))]) hP hD [2, 0, 1] [] rfl rfl (by decide) (by decide) hk1 hFc hP1 hD1
        clear hP1 hK1 hD1 hPc hDc hFc hk1 hz1 hvm eth
        generalize H1 = H at hP hS ⊢
        have hP : va_P (dC, dI) vwCl [(ht, .inr (5, [.int vt_clerks, .ref ht_drops, .ref ht_tires, .ref ht_now, .ref ht_told, .ref ht_text, .int vt_length, .ref ht_pages, .int x6.1, .int x6.2.1, .ref ht_row, .int vt_found, .ref ht_alike, .ref ht_table, .ref ht_keys, .ref ht_own, .long vt_seed, .ref ht_isKept, .ref ht_kept])), (ht_now, .inl (cI, 13, .inl vt_now)), (ht_row, .inl (cI, 208, .inl x6.2.2))] H := hP
        have hD : va_D A [(ht, .inr (5, [.int vt_clerks, .ref ht_drops, .ref ht_tires, .ref ht_now, .ref ht_told, .ref ht_text, .int vt_length, .ref ht_pages, .int x6.1, .int x6.2.1, .ref ht_row, .int vt_found, .ref ht_alike, .ref ht_table, .ref ht_keys, .ref ht_own, .long vt_seed, .ref ht_isKept, .ref ht_kept])), (ht_now, .inl (cI, 13, .inl vt_now)), (ht_row, .inl (cI, 208, .inl x6.2.2))] := hD
        refine lv_aload_n hx hb dX6_seat_52 rfl (lv_at hl 0 rfl) ?_
        refine va_get (D := (dC, dI)) (ci := 5) (v := .ref ht_now) (C := RX6) (T := TX6) (N := 19) hx hb hts hinX6 hown hK hP 0 rfl rfl 3 (by decide) hw0 (fun _ h9 => h9) rfl dX6_seat_53 ?_
        refine lv_bipush (v := 9) hx hb dX6_seat_56 (by decide) ?_
        refine lv_iload_n hx hb dX6_seat_58 rfl (lv_at hl 1 rfl) ?_
        refine lv_iadd hx hb dX6_seat_59 ?_
        obtain ⟨hi7, hf⟩ := dg_ix hf
        refine va_iald hx hb hK hP 1 0 rfl rfl hi7 dX6_seat_60 ?_
        refine lv_istore_n (lv' := [(3, .int (vt_now ((9:Int32) + a1).toNatClampNeg)), (0, .ref ht), (1, .int a1), (2, .int a2)]) hx hb dX6_seat_61 rfl hl (by decide) rfl (fun ls hl => ?_)
        refine lv_aload_n hx hb dX6_seat_62 rfl (lv_at hl 1 rfl) ?_
        refine va_get (D := (dC, dI)) (ci := 5) (v := .ref ht_now) (C := RX6) (T := TX6) (N := 19) hx hb hts hinX6 hown hK hP 0 rfl rfl 3 (by decide) hw0 (fun _ h9 => h9) rfl dX6_seat_63 ?_
        refine lv_bipush (v := 9) hx hb dX6_seat_66 (by decide) ?_
        refine lv_iload_n hx hb dX6_seat_68 rfl (lv_at hl 2 rfl) ?_
        refine lv_iadd hx hb dX6_seat_69 ?_
        refine lv_iload_n hx hb dX6_seat_70 rfl (lv_at hl 3 rfl) ?_
        obtain ⟨hi8, hf⟩ := dg_ix hf
        refine va_iast hx hb hK hP hD hS 1 0 rfl rfl hi8 dX6_seat_71 (fun H locs hP hD hS => ?_)
        have hP : va_P (dC, dI) vwCl [(ht, .inr (5, [.int vt_clerks, .ref ht_drops, .ref ht_tires, .ref ht_now, .ref ht_told, .ref ht_text, .int vt_length, .ref ht_pages, .int x6.1, .int x6.2.1, .ref ht_row, .int vt_found, .ref ht_alike, .ref ht_table, .ref ht_keys, .ref ht_own, .long vt_seed, .ref ht_isKept, .ref ht_kept])), (ht_now, .inl (cI, 13, .inl (upd vt_now ((9:Int32) + a1).toNatClampNeg a2))), (ht_row, .inl (cI, 208, .inl x6.2.2))] H := hP
        have hD : va_D A [(ht, .inr (5, [.int vt_clerks, .ref ht_drops, .ref ht_tires, .ref ht_now, .ref ht_told, .ref ht_text, .int vt_length, .ref ht_pages, .int x6.1, .int x6.2.1, .ref ht_row, .int vt_found, .ref ht_alike, .ref ht_table, .ref ht_keys, .ref ht_own, .long vt_seed, .ref ht_isKept, .ref ht_kept])), (ht_now, .inl (cI, 13, .inl (upd vt_now ((9:Int32) + a1).toNatClampNeg a2))), (ht_row, .inl (cI, 208, .inl x6.2.2))] := hD
        refine lv_iload_n hx hb dX6_seat_72 rfl (lv_at hl 0 rfl) ?_
        have he := Option.some.inj hf
        have hP9 := hP
        have hD9 := hD
        exact W.iret (v := (vt_now ((9:Int32) + a1).toNatClampNeg)) hx hb hr (fun t eth hW => ⟨⟨(vt_now ((9:Int32) + a1).toNatClampNeg), (x6.1, x6.2.1, (upd vt_now ((9:Int32) + a1).toNatClampNeg a2), x6.2.2), rfl, ⟨(congrArg Prod.fst he).symm, (congrArg Prod.snd he).symm⟩, by rw [eth]; exact hP9, va_K.moved hW.alike hK, hD9⟩, hS.F eth⟩) hS.2.2 dX6_seat_73
      · replace hf := dg_t c5 hf
        refine lv_bipush (v := -3) hx hb dX6_seat_45 (by decide) ?_
        have he := Option.some.inj hf
        have hP9 := (hP.sub (ws' := [(ht, .inr (5, [.int vt_clerks, .ref ht_drops, .ref ht_tires, .ref ht_now, .ref ht_told, .ref ht_text, .int vt_length, .ref ht_pages, .int vt_acts, .int vt_next, .ref ht_row, .int vt_found, .ref ht_alike, .ref ht_table, .ref ht_keys, .ref ht_own, .long vt_seed, .ref ht_isKept, .ref ht_kept])), (ht_now, .inl (cI, 13, .inl vt_now)), (ht_row, .inl (cI, 208, .inl vt_row))]) [2, 0, 1] rfl)
        have hD9 := (hD.sub (ws' := [(ht, .inr (5, [.int vt_clerks, .ref ht_drops, .ref ht_tires, .ref ht_now, .ref ht_told, .ref ht_text, .int vt_length, .ref ht_pages, .int vt_acts, .int vt_next, .ref ht_row, .int vt_found, .ref ht_alike, .ref ht_table, .ref ht_keys, .ref ht_own, .long vt_seed, .ref ht_isKept, .ref ht_kept])), (ht_now, .inl (cI, 13, .inl vt_now)), (ht_row, .inl (cI, 208, .inl vt_row))]) [2, 0, 1] (by decide) rfl)
        exact W.iret (v := (-3:Int32)) hx hb hr (fun t eth hW => ⟨⟨(-3:Int32), (vt_acts, vt_next, vt_now, vt_row), rfl, ⟨(congrArg Prod.fst he).symm, (congrArg Prod.snd he).symm⟩, by rw [eth]; exact hP9, va_K.moved hW.alike hK, hD9⟩, hS.F eth⟩) hS.2.2 dX6_seat_47
    · replace hf := dg_f c3 hf
      refine lv_iload_n hx hb dX6_seat_16 rfl (lv_at hl 2 rfl) ?_
      refine lv_i2l hx hb dX6_seat_17 rfl ?_
      refine lv_lconst (v := 0) hx hb dX6_seat_18 (by decide) ?_
      refine lv_iload_n hx hb dX6_seat_19 rfl (lv_at hl 1 rfl) ?_
      refine lv_iconst (v := 1) hx hb dX6_seat_20 (by decide) ?_
      refine lv_isub hx hb dX6_seat_21 ?_
      refine lv_i2l hx hb dX6_seat_22 rfl ?_
      obtain ⟨x9, hx9, hf⟩ := dg_bind hf
      have hPc : va_P (dC, dI) vwCl [] H := hP.sub [] rfl
      have hDc : va_D A [] := hD.sub [] (by decide) rfl
      have hFc := va_free (wc := []) hD hS hA [] rfl
      refine va_calli (va_runS (As := [.long a2.toInt64, .long (0:Int64), .long (a1 - (1:Int32)).toInt64]) (rest := []) ⟨hx, hb, hml, hown, hts⟩ (k_X6_in l dC dI cI cJ cZ H.size a2.toInt64 (0:Int64) (a1 - (1:Int32)).toInt64 N x9 hx9) (va_cwS 3 hts gX6_seat_X6_in rfl rfl rfl hd_X6_in ⟨Nat.le_of_ble_eq_true rfl, Nat.le_of_ble_eq_true rfl⟩) ⟨blind_pc, pre_pc hPc hK hDc⟩ rfl rfl hl.1 rfl (lv_room (Nat.le_of_ble_eq_true rfl)) dX6_seat_23 ⟨Nat.zero_le _, Nat.zero_le _⟩) hS (fun q _ h => hFc q h) hFc (fun r u t H1 locs eth hvm hw hB hz1 hk1 hS => ?_)
      obtain ⟨hP1, hK1, hD1⟩ := hB
      rw [eth] at hP1
      subst hw
      obtain ⟨hP, hD⟩ := va_join (wr := [(ht_now, .inl (cI, 13, .inl vt_now)), (ht_row, .inl (cI, 208, .inl vt_row)), (ht, .inr (5, [.int vt_clerks, .ref ht_drops, .ref ht_tires, .ref ht_now, .ref ht_told, .ref ht_text, .int vt_length, .ref ht_pages, .int vt_acts, .int vt_next, .ref ht_row, .int vt_found, .ref ht_alike, .ref ht_table, .ref ht_keys, .ref ht_own, .long vt_seed, .ref ht_isKept, .ref ht_kept]))]) (w1 := []) hP hD [] [0, 1, 2] rfl rfl (by decide) (by decide) hk1 hFc hP1 hD1
      clear hP1 hK1 hD1 hPc hDc hFc hk1 hz1 hvm eth
      generalize H1 = H at hP hS ⊢
      have hP : va_P (dC, dI) vwCl [(ht_now, .inl (cI, 13, .inl vt_now)), (ht_row, .inl (cI, 208, .inl vt_row)), (ht, .inr (5, [.int vt_clerks, .ref ht_drops, .ref ht_tires, .ref ht_now, .ref ht_told, .ref ht_text, .int vt_length, .ref ht_pages, .int vt_acts, .int vt_next, .ref ht_row, .int vt_found, .ref ht_alike, .ref ht_table, .ref ht_keys, .ref ht_own, .long vt_seed, .ref ht_isKept, .ref ht_kept]))] H := hP
      have hD : va_D A [(ht_now, .inl (cI, 13, .inl vt_now)), (ht_row, .inl (cI, 208, .inl vt_row)), (ht, .inr (5, [.int vt_clerks, .ref ht_drops, .ref ht_tires, .ref ht_now, .ref ht_told, .ref ht_text, .int vt_length, .ref ht_pages, .int vt_acts, .int vt_next, .ref ht_row, .int vt_found, .ref ht_alike, .ref ht_table, .ref ht_keys, .ref ht_own, .long vt_seed, .ref ht_isKept, .ref ht_kept]))] := hD
      refine lv_if_ne (tgt := 32) hx hb dX6_seat_26 (by decide) (fun c10 => ?_) (fun c10 => ?_)
      · replace hf := dg_f c10 hf
        refine lv_aload_n hx hb dX6_seat_32 rfl (lv_at hl 0 rfl) ?_
        refine va_get (D := (dC, dI)) (ci := 5) (v := .ref ht_now) (C := RX6) (T := TX6) (N := 19) hx hb hts hinX6 hown hK hP 2 rfl rfl 3 (by decide) hw0 (fun _ h9 => h9) rfl dX6_seat_33 ?_
        refine lv_bipush (v := 9) hx hb dX6_seat_36 (by decide) ?_
        refine lv_iload_n hx hb dX6_seat_38 rfl (lv_at hl 1 rfl) ?_
        refine lv_iadd hx hb dX6_seat_39 ?_
        obtain ⟨hi11, hf⟩ := dg_ix hf
        refine va_iald hx hb hK hP 0 0 rfl rfl hi11 dX6_seat_40 ?_
        refine lv_iload_n hx hb dX6_seat_41 rfl (lv_at hl 2 rfl) ?_
        refine lv_icmp_ne (tgt := 48) hx hb dX6_seat_42 (by decide) (fun c12 => ?_) (fun c12 => ?_)
        · replace hf := dg_f c12 hf
          refine lv_aload_n hx hb dX6_seat_48 rfl (lv_at hl 0 rfl) ?_
          obtain ⟨x13, hx13, hf⟩ := dg_bind hf
          have hPc : va_P (dC, dI) vwCl [(ht, .inr (5, [.int vt_clerks, .ref ht_drops, .ref ht_tires, .ref ht_now, .ref ht_told, .ref ht_text, .int vt_length, .ref ht_pages, .int vt_acts, .int vt_next, .ref ht_row, .int vt_found, .ref ht_alike, .ref ht_table, .ref ht_keys, .ref ht_own, .long vt_seed, .ref ht_isKept, .ref ht_kept])), (ht_now, .inl (cI, 13, .inl vt_now)), (ht_row, .inl (cI, 208, .inl vt_row))] H := hP.sub [2, 0, 1] rfl
          have hDc : va_D A [(ht, .inr (5, [.int vt_clerks, .ref ht_drops, .ref ht_tires, .ref ht_now, .ref ht_told, .ref ht_text, .int vt_length, .ref ht_pages, .int vt_acts, .int vt_next, .ref ht_row, .int vt_found, .ref ht_alike, .ref ht_table, .ref ht_keys, .ref ht_own, .long vt_seed, .ref ht_isKept, .ref ht_kept])), (ht_now, .inl (cI, 13, .inl vt_now)), (ht_row, .inl (cI, 208, .inl vt_row))] := hD.sub [2, 0, 1] (by decide) rfl
          have hFc := va_free (wc := [(ht, .inr (5, [.int vt_clerks, .ref ht_drops, .ref ht_tires, .ref ht_now, .ref ht_told, .ref ht_text, .int vt_length, .ref ht_pages, .int vt_acts, .int vt_next, .ref ht_row, .int vt_found, .ref ht_alike, .ref ht_table, .ref ht_keys, .ref ht_own, .long vt_seed, .ref ht_isKept, .ref ht_kept])), (ht_now, .inl (cI, 13, .inl vt_now)), (ht_row, .inl (cI, 208, .inl vt_row))]) hD hS hA [2, 0, 1] rfl
          refine va_callv (va_runV (As := []) (rest := []) ⟨hx, hb, hml, hown, hts⟩ (k_X6_keepAct l dC dI cI cJ cZ H.size ht ht_drops ht_tires ht_now ht_told ht_text ht_pages ht_row ht_alike ht_table ht_keys ht_own ht_isKept ht_kept vt_clerks vt_length vt_acts vt_next vt_found vt_seed vt_now vt_row N x13 hx13) (cwV 0 hts gX6_seat_X6_keepAct rfl rfl rfl hd_X6_keepAct ⟨Nat.le_of_ble_eq_true rfl, Nat.le_of_ble_eq_true rfl⟩) ⟨blind_pc, va_recv hK hPc (ci := 5) (q0 := 0) rfl rfl, pre_pc hPc hK hDc⟩ rfl rfl hl.1 rfl (lv_room (Nat.le_of_ble_eq_true rfl)) dX6_seat_49 ⟨Nat.zero_le _, Nat.zero_le _⟩) hS (fun q _ h => hFc q h) hFc (fun u t H1 locs eth hvm hw hB hz1 hk1 hS => ?_)
          obtain ⟨hP1, hK1, hD1⟩ := hB
          rw [eth] at hP1
          subst hw
          obtain ⟨hP, hD⟩ := va_join (wr := []) (w1 := [(ht, .inr (5, [.int vt_clerks, .ref ht_drops, .ref ht_tires, .ref ht_now, .ref ht_told, .ref ht_text, .int vt_length, .ref ht_pages, .int x13.1, .int x13.2.1, .ref ht_row, .int vt_found, .ref ht_alike, .ref ht_table, .ref ht_keys, .ref ht_own, .long vt_seed, .ref ht_isKept, .ref ht_kept])), (ht_now, .inl (cI, 13, .inl vt_now)), (ht_row, .inl (cI, 208, .inl x13.2.2))]) hP hD [2, 0, 1] [] rfl rfl (by decide) (by decide) hk1 hFc hP1 hD1
          clear hP1 hK1 hD1 hPc hDc hFc hk1 hz1 hvm eth
          generalize H1 = H at hP hS ⊢
          have hP : va_P (dC, dI) vwCl [(ht, .inr (5, [.int vt_clerks, .ref ht_drops, .ref ht_tires, .ref ht_now, .ref ht_told, .ref ht_text, .int vt_length, .ref ht_pages, .int x13.1, .int x13.2.1, .ref ht_row, .int vt_found, .ref ht_alike, .ref ht_table, .ref ht_keys, .ref ht_own, .long vt_seed, .ref ht_isKept, .ref ht_kept])), (ht_now, .inl (cI, 13, .inl vt_now)), (ht_row, .inl (cI, 208, .inl x13.2.2))] H := hP
          have hD : va_D A [(ht, .inr (5, [.int vt_clerks, .ref ht_drops, .ref ht_tires, .ref ht_now, .ref ht_told, .ref ht_text, .int vt_length, .ref ht_pages, .int x13.1, .int x13.2.1, .ref ht_row, .int vt_found, .ref ht_alike, .ref ht_table, .ref ht_keys, .ref ht_own, .long vt_seed, .ref ht_isKept, .ref ht_kept])), (ht_now, .inl (cI, 13, .inl vt_now)), (ht_row, .inl (cI, 208, .inl x13.2.2))] := hD
          refine lv_aload_n hx hb dX6_seat_52 rfl (lv_at hl 0 rfl) ?_
          refine va_get (D := (dC, dI)) (ci := 5) (v := .ref ht_now) (C := RX6) (T := TX6) (N := 19) hx hb hts hinX6 hown hK hP 0 rfl rfl 3 (by decide) hw0 (fun _ h9 => h9) rfl dX6_seat_53 ?_
          refine lv_bipush (v := 9) hx hb dX6_seat_56 (by decide) ?_
          refine lv_iload_n hx hb dX6_seat_58 rfl (lv_at hl 1 rfl) ?_
          refine lv_iadd hx hb dX6_seat_59 ?_
          obtain ⟨hi14, hf⟩ := dg_ix hf
          refine va_iald hx hb hK hP 1 0 rfl rfl hi14 dX6_seat_60 ?_
          refine lv_istore_n (lv' := [(3, .int (vt_now ((9:Int32) + a1).toNatClampNeg)), (0, .ref ht), (1, .int a1), (2, .int a2)]) hx hb dX6_seat_61 rfl hl (by decide) rfl (fun ls hl => ?_)
          refine lv_aload_n hx hb dX6_seat_62 rfl (lv_at hl 1 rfl) ?_
          refine va_get (D := (dC, dI)) (ci := 5) (v := .ref ht_now) (C := RX6) (T := TX6) (N := 19) hx hb hts hinX6 hown hK hP 0 rfl rfl 3 (by decide) hw0 (fun _ h9 => h9) rfl dX6_seat_63 ?_
          refine lv_bipush (v := 9) hx hb dX6_seat_66 (by decide) ?_
          refine lv_iload_n hx hb dX6_seat_68 rfl (lv_at hl 2 rfl) ?_
          refine lv_iadd hx hb dX6_seat_69 ?_
          refine lv_iload_n hx hb dX6_seat_70 rfl (lv_at hl 3 rfl) ?_
          obtain ⟨hi15, hf⟩ := dg_ix hf
          refine va_iast hx hb hK hP hD hS 1 0 rfl rfl hi15 dX6_seat_71 (fun H locs hP hD hS => ?_)
          have hP : va_P (dC, dI) vwCl [(ht, .inr (5, [.int vt_clerks, .ref ht_drops, .ref ht_tires, .ref ht_now, .ref ht_told, .ref ht_text, .int vt_length, .ref ht_pages, .int x13.1, .int x13.2.1, .ref ht_row, .int vt_found, .ref ht_alike, .ref ht_table, .ref ht_keys, .ref ht_own, .long vt_seed, .ref ht_isKept, .ref ht_kept])), (ht_now, .inl (cI, 13, .inl (upd vt_now ((9:Int32) + a1).toNatClampNeg a2))), (ht_row, .inl (cI, 208, .inl x13.2.2))] H := hP
          have hD : va_D A [(ht, .inr (5, [.int vt_clerks, .ref ht_drops, .ref ht_tires, .ref ht_now, .ref ht_told, .ref ht_text, .int vt_length, .ref ht_pages, .int x13.1, .int x13.2.1, .ref ht_row, .int vt_found, .ref ht_alike, .ref ht_table, .ref ht_keys, .ref ht_own, .long vt_seed, .ref ht_isKept, .ref ht_kept])), (ht_now, .inl (cI, 13, .inl (upd vt_now ((9:Int32) + a1).toNatClampNeg a2))), (ht_row, .inl (cI, 208, .inl x13.2.2))] := hD
          refine lv_iload_n hx hb dX6_seat_72 rfl (lv_at hl 0 rfl) ?_
          have he := Option.some.inj hf
          have hP9 := hP
          have hD9 := hD
          exact W.iret (v := (vt_now ((9:Int32) + a1).toNatClampNeg)) hx hb hr (fun t eth hW => ⟨⟨(vt_now ((9:Int32) + a1).toNatClampNeg), (x13.1, x13.2.1, (upd vt_now ((9:Int32) + a1).toNatClampNeg a2), x13.2.2), rfl, ⟨(congrArg Prod.fst he).symm, (congrArg Prod.snd he).symm⟩, by rw [eth]; exact hP9, va_K.moved hW.alike hK, hD9⟩, hS.F eth⟩) hS.2.2 dX6_seat_73
        · replace hf := dg_t c12 hf
          refine lv_bipush (v := -3) hx hb dX6_seat_45 (by decide) ?_
          have he := Option.some.inj hf
          have hP9 := (hP.sub (ws' := [(ht, .inr (5, [.int vt_clerks, .ref ht_drops, .ref ht_tires, .ref ht_now, .ref ht_told, .ref ht_text, .int vt_length, .ref ht_pages, .int vt_acts, .int vt_next, .ref ht_row, .int vt_found, .ref ht_alike, .ref ht_table, .ref ht_keys, .ref ht_own, .long vt_seed, .ref ht_isKept, .ref ht_kept])), (ht_now, .inl (cI, 13, .inl vt_now)), (ht_row, .inl (cI, 208, .inl vt_row))]) [2, 0, 1] rfl)
          have hD9 := (hD.sub (ws' := [(ht, .inr (5, [.int vt_clerks, .ref ht_drops, .ref ht_tires, .ref ht_now, .ref ht_told, .ref ht_text, .int vt_length, .ref ht_pages, .int vt_acts, .int vt_next, .ref ht_row, .int vt_found, .ref ht_alike, .ref ht_table, .ref ht_keys, .ref ht_own, .long vt_seed, .ref ht_isKept, .ref ht_kept])), (ht_now, .inl (cI, 13, .inl vt_now)), (ht_row, .inl (cI, 208, .inl vt_row))]) [2, 0, 1] (by decide) rfl)
          exact W.iret (v := (-3:Int32)) hx hb hr (fun t eth hW => ⟨⟨(-3:Int32), (vt_acts, vt_next, vt_now, vt_row), rfl, ⟨(congrArg Prod.fst he).symm, (congrArg Prod.snd he).symm⟩, by rw [eth]; exact hP9, va_K.moved hW.alike hK, hD9⟩, hS.F eth⟩) hS.2.2 dX6_seat_47
      · replace hf := dg_t c10 hf
        refine lv_bipush (v := -2) hx hb dX6_seat_29 (by decide) ?_
        have he := Option.some.inj hf
        have hP9 := (hP.sub (ws' := [(ht, .inr (5, [.int vt_clerks, .ref ht_drops, .ref ht_tires, .ref ht_now, .ref ht_told, .ref ht_text, .int vt_length, .ref ht_pages, .int vt_acts, .int vt_next, .ref ht_row, .int vt_found, .ref ht_alike, .ref ht_table, .ref ht_keys, .ref ht_own, .long vt_seed, .ref ht_isKept, .ref ht_kept])), (ht_now, .inl (cI, 13, .inl vt_now)), (ht_row, .inl (cI, 208, .inl vt_row))]) [2, 0, 1] rfl)
        have hD9 := (hD.sub (ws' := [(ht, .inr (5, [.int vt_clerks, .ref ht_drops, .ref ht_tires, .ref ht_now, .ref ht_told, .ref ht_text, .int vt_length, .ref ht_pages, .int vt_acts, .int vt_next, .ref ht_row, .int vt_found, .ref ht_alike, .ref ht_table, .ref ht_keys, .ref ht_own, .long vt_seed, .ref ht_isKept, .ref ht_kept])), (ht_now, .inl (cI, 13, .inl vt_now)), (ht_row, .inl (cI, 208, .inl vt_row))]) [2, 0, 1] (by decide) rfl)
        exact W.iret (v := (-2:Int32)) hx hb hr (fun t eth hW => ⟨⟨(-2:Int32), (vt_acts, vt_next, vt_now, vt_row), rfl, ⟨(congrArg Prod.fst he).symm, (congrArg Prod.snd he).symm⟩, by rw [eth]; exact hP9, va_K.moved hW.alike hK, hD9⟩, hS.F eth⟩) hS.2.2 dX6_seat_31
  · replace hf := dg_t c2 hf
    refine lv_iconst (v := -1) hx hb dX6_seat_8 (by decide) ?_
    have he := Option.some.inj hf
    have hP9 := (hP.sub (ws' := [(ht, .inr (5, [.int vt_clerks, .ref ht_drops, .ref ht_tires, .ref ht_now, .ref ht_told, .ref ht_text, .int vt_length, .ref ht_pages, .int vt_acts, .int vt_next, .ref ht_row, .int vt_found, .ref ht_alike, .ref ht_table, .ref ht_keys, .ref ht_own, .long vt_seed, .ref ht_isKept, .ref ht_kept])), (ht_now, .inl (cI, 13, .inl vt_now)), (ht_row, .inl (cI, 208, .inl vt_row))]) [2, 0, 1] rfl)
    have hD9 := (hD.sub (ws' := [(ht, .inr (5, [.int vt_clerks, .ref ht_drops, .ref ht_tires, .ref ht_now, .ref ht_told, .ref ht_text, .int vt_length, .ref ht_pages, .int vt_acts, .int vt_next, .ref ht_row, .int vt_found, .ref ht_alike, .ref ht_table, .ref ht_keys, .ref ht_own, .long vt_seed, .ref ht_isKept, .ref ht_kept])), (ht_now, .inl (cI, 13, .inl vt_now)), (ht_row, .inl (cI, 208, .inl vt_row))]) [2, 0, 1] (by decide) rfl)
    exact W.iret (v := (-1:Int32)) hx hb hr (fun t eth hW => ⟨⟨(-1:Int32), (vt_acts, vt_next, vt_now, vt_row), rfl, ⟨(congrArg Prod.fst he).symm, (congrArg Prod.snd he).symm⟩, by rw [eth]; exact hP9, va_K.moved hW.alike hK, hD9⟩, hS.F eth⟩) hS.2.2 dX6_seat_9
theorem hd_X6_undo : yX6_undo.cls = RX6 ∧ yX6_undo.cls ≠ "java/lang/invoke/MethodHandle" ∧ yX6_undo.cls ≠ "java/lang/invoke/VarHandle" ∧ (parseMethodDescriptor yX6_undo.desc).map (fun d => d.parameters.length) = some 0 := by decide +kernel
abbrev rm_X6_undo : Room := { frames := 0, cells := 0, slots := 0, locals := 0 }
abbrev q_X6_undo (dC : Nat → ClassId) (dI : Nat → Nat → Nat) (cI cJ cZ : ClassId) (ht ht_drops ht_tires ht_now ht_told ht_text ht_pages ht_row ht_alike ht_table ht_keys ht_own ht_isKept ht_kept : Nat) (vt_clerks : Int32) (vt_length : Int32) (vt_found : Int32) (vt_seed : Int64) (vt_row : Nat → Int32) (R : Int32 × Int32 × Int32 × (Nat → Int32)) (A : Nat → Prop) : Array Value → State → Outcome → State → Prop := va_Qi (fun (r : Int32) (u : Int32 × Int32 × (Nat → Int32)) => R.1 = r ∧ R.2 = u) (fun (u : Int32 × Int32 × (Nat → Int32)) (t : State) => va_P (dC, dI) vwCl [(ht, .inr (5, [.int vt_clerks, .ref ht_drops, .ref ht_tires, .ref ht_now, .ref ht_told, .ref ht_text, .int vt_length, .ref ht_pages, .int u.1, .int u.2.1, .ref ht_row, .int vt_found, .ref ht_alike, .ref ht_table, .ref ht_keys, .ref ht_own, .long vt_seed, .ref ht_isKept, .ref ht_kept])), (ht_now, .inl (cI, 13, .inl u.2.2)), (ht_row, .inl (cI, 208, .inl vt_row))] t.heap ∧ va_K (dC, dI) vwCl [(cI, .int), (cJ, .long), (cZ, .boolean)] t ∧ va_D A [(ht, .inr (5, [.int vt_clerks, .ref ht_drops, .ref ht_tires, .ref ht_now, .ref ht_told, .ref ht_text, .int vt_length, .ref ht_pages, .int u.1, .int u.2.1, .ref ht_row, .int vt_found, .ref ht_alike, .ref ht_table, .ref ht_keys, .ref ht_own, .long vt_seed, .ref ht_isKept, .ref ht_kept])), (ht_now, .inl (cI, 13, .inl u.2.2)), (ht_row, .inl (cI, 208, .inl vt_row))]) A
set_option maxHeartbeats 4000000 in
set_option maxRecDepth 100000 in
theorem k_X6_undo (l : Launch) (dC : Nat → ClassId) (dI : Nat → Nat → Nat) (cI cJ cZ : ClassId) (sz : Nat) (ht ht_drops ht_tires ht_now ht_told ht_text ht_pages ht_row ht_alike ht_table ht_keys ht_own ht_isKept ht_kept : Nat) (vt_clerks : Int32) (vt_length : Int32) (vt_acts : Int32) (vt_next : Int32) (vt_found : Int32) (vt_seed : Int64) (vt_now : Nat → Int32) (vt_row : Nat → Int32) (N : Nat) (R : Int32 × Int32 × Int32 × (Nat → Int32)) (hf : f_X6_undo N vt_acts vt_next vt_now vt_row = some R) : Met l yX6_undo wsX6_undo (rm_X6_undo) (va_Pc [.ref ht] (fun U => U.heap.size = sz ∧ va_P (dC, dI) vwCl [(ht, .inr (5, [.int vt_clerks, .ref ht_drops, .ref ht_tires, .ref ht_now, .ref ht_told, .ref ht_text, .int vt_length, .ref ht_pages, .int vt_acts, .int vt_next, .ref ht_row, .int vt_found, .ref ht_alike, .ref ht_table, .ref ht_keys, .ref ht_own, .long vt_seed, .ref ht_isKept, .ref ht_kept])), (ht_now, .inl (cI, 13, .inl vt_now)), (ht_row, .inl (cI, 208, .inl vt_row))] U.heap ∧ va_K (dC, dI) vwCl [(cI, .int), (cJ, .long), (cZ, .boolean)] U ∧ va_D (fun _ => True) [(ht, .inr (5, [.int vt_clerks, .ref ht_drops, .ref ht_tires, .ref ht_now, .ref ht_told, .ref ht_text, .int vt_length, .ref ht_pages, .int vt_acts, .int vt_next, .ref ht_row, .int vt_found, .ref ht_alike, .ref ht_table, .ref ht_keys, .ref ht_own, .long vt_seed, .ref ht_isKept, .ref ht_kept])), (ht_now, .inl (cI, 13, .inl vt_now)), (ht_row, .inl (cI, 208, .inl vt_row))])) (q_X6_undo dC dI cI cJ cZ ht ht_drops ht_tires ht_now ht_told ht_text ht_pages ht_row ht_alike ht_table ht_keys ht_own ht_isKept ht_kept vt_clerks vt_length vt_found vt_seed vt_row R (va_A [(ht, .inr (5, [.int vt_clerks, .ref ht_drops, .ref ht_tires, .ref ht_now, .ref ht_told, .ref ht_text, .int vt_length, .ref ht_pages, .int vt_acts, .int vt_next, .ref ht_row, .int vt_found, .ref ht_alike, .ref ht_table, .ref ht_keys, .ref ht_own, .long vt_seed, .ref ht_isKept, .ref ht_kept])), (ht_now, .inl (cI, 13, .inl vt_now)), (ht_row, .inl (cI, 208, .inl vt_row))] sz)) 0 0 (va_A [(ht, .inr (5, [.int vt_clerks, .ref ht_drops, .ref ht_tires, .ref ht_now, .ref ht_told, .ref ht_text, .int vt_length, .ref ht_pages, .int vt_acts, .int vt_next, .ref ht_row, .int vt_found, .ref ht_alike, .ref ht_table, .ref ht_keys, .ref ht_own, .long vt_seed, .ref ht_isKept, .ref ht_kept])), (ht_now, .inl (cI, 13, .inl vt_now)), (ht_row, .inl (cI, 208, .inl vt_row))] sz) := by
  refine Met.ofW (cc := cX6_undo) (maxL := 2) (ret := (some .int)) (by decide) rfl ?_
  intro p e s m args below meth c s₁ B hml hv
  obtain ⟨rfl, hsz, hP, hK, hD0⟩ := hv
  have hx := B.exec
  have hb := B.bytes
  have hr := B.returns
  have hts := atoms_spec (ws := wsX6_undo) B.pre
  have hown : s.vm.findClass RX6 = some m.cls := findClass_of_methodNamed B.named
  have hlocks := B.notSynchronized
  clear B
  subst hsz
  have hw0 := hts (.fieldLink RX6 86 "ShorthandCourtModel" "acts" "I") (by decide +kernel)
  have hw1 := hts (.fieldLink RX6 113 "ShorthandCourtModel" "next" "I") (by decide +kernel)
  have hw2 := hts (.fieldLink RX6 16 "ShorthandCourtModel" "now" "[I") (by decide +kernel)
  have hw3 := hts (.fieldLink RX6 28 "ShorthandCourtModel" "row" "[I") (by decide +kernel)
  have hinX6 : ∀ w ∈ u_ws RX6 TX6 19, w ∈ wsX6_undo := by decide +kernel
  have hD := hD0.self (sz := s.heap.size)
  clear hD0
  generalize hAe : va_A [(ht, .inr (5, [.int vt_clerks, .ref ht_drops, .ref ht_tires, .ref ht_now, .ref ht_told, .ref ht_text, .int vt_length, .ref ht_pages, .int vt_acts, .int vt_next, .ref ht_row, .int vt_found, .ref ht_alike, .ref ht_table, .ref ht_keys, .ref ht_own, .long vt_seed, .ref ht_isKept, .ref ht_kept])), (ht_now, .inl (cI, 13, .inl vt_now)), (ht_row, .inl (cI, 208, .inl vt_row))] s.heap.size = A at hD ⊢
  have hA : ∀ q : Nat, s.heap.size ≤ q → A q := fun q h => by rw [← hAe]; exact Or.inr h
  clear hAe
  have hS : va_S A s.heap s.heap [] := va_S.rf
  have hl := lv_entry ([.ref ht]) (n := 2) (Nat.le_of_ble_eq_true rfl)
  rw [lg_entry_eq]
  generalize (lg_sl ([.ref ht]) ++ List.replicate (2 - (lg_sl ([.ref ht])).length) Slot.unset).toArray = ls at hl ⊢
  have hl : lv_has ls 2 [(0, .ref ht)] := hl
  unfold f_X6_undo at hf
  refine lv_aload_n hx hb dX6_undo_0 rfl (lv_at hl 0 rfl) ?_
  refine va_get (D := (dC, dI)) (ci := 5) (v := .int vt_acts) (C := RX6) (T := TX6) (N := 19) hx hb hts hinX6 hown hK hP 0 rfl rfl 8 (by decide) hw0 (fun _ h9 => h9) rfl dX6_undo_1 ?_
  refine lv_if_ne (tgt := 10) hx hb dX6_undo_4 (by decide) (fun c1 => ?_) (fun c1 => ?_)
  · replace hf := dg_f c1 hf
    refine lv_aload_n hx hb dX6_undo_10 rfl (lv_at hl 0 rfl) ?_
    refine lv_dup hx hb dX6_undo_11 rfl ?_
    refine va_get (D := (dC, dI)) (ci := 5) (v := .int vt_acts) (C := RX6) (T := TX6) (N := 19) hx hb hts hinX6 hown hK hP 0 rfl rfl 8 (by decide) hw0 (fun _ h9 => h9) rfl dX6_undo_12 ?_
    refine lv_iconst (v := 1) hx hb dX6_undo_15 (by decide) ?_
    refine lv_isub hx hb dX6_undo_16 ?_
    refine va_put (D := (dC, dI)) (ci := 5) (v := .int (vt_acts - (1:Int32))) (ty := .int) (C := RX6) (T := TX6) (N := 19) hx hb hts hinX6 tyX6 tyX6_ok nmX6 hown hK hP hD hS 0 rfl rfl 8 (by decide) hw0 (fun _ h9 => h9) rfl (by decide +kernel) rfl rfl (Nat.le_of_ble_eq_true rfl) dX6_undo_17 (fun H locs hP hD hS => ?_)
    have hP : va_P (dC, dI) vwCl [(ht, .inr (5, [.int vt_clerks, .ref ht_drops, .ref ht_tires, .ref ht_now, .ref ht_told, .ref ht_text, .int vt_length, .ref ht_pages, .int (vt_acts - (1:Int32)), .int vt_next, .ref ht_row, .int vt_found, .ref ht_alike, .ref ht_table, .ref ht_keys, .ref ht_own, .long vt_seed, .ref ht_isKept, .ref ht_kept])), (ht_now, .inl (cI, 13, .inl vt_now)), (ht_row, .inl (cI, 208, .inl vt_row))] H := hP
    have hD : va_D A [(ht, .inr (5, [.int vt_clerks, .ref ht_drops, .ref ht_tires, .ref ht_now, .ref ht_told, .ref ht_text, .int vt_length, .ref ht_pages, .int (vt_acts - (1:Int32)), .int vt_next, .ref ht_row, .int vt_found, .ref ht_alike, .ref ht_table, .ref ht_keys, .ref ht_own, .long vt_seed, .ref ht_isKept, .ref ht_kept])), (ht_now, .inl (cI, 13, .inl vt_now)), (ht_row, .inl (cI, 208, .inl vt_row))] := hD
    refine lv_aload_n hx hb dX6_undo_20 rfl (lv_at hl 0 rfl) ?_
    refine lv_aload_n hx hb dX6_undo_21 rfl (lv_at hl 0 rfl) ?_
    refine va_get (D := (dC, dI)) (ci := 5) (v := .int vt_next) (C := RX6) (T := TX6) (N := 19) hx hb hts hinX6 hown hK hP 0 rfl rfl 9 (by decide) hw1 (fun _ h9 => h9) rfl dX6_undo_22 ?_
    refine lv_bipush (v := 15) hx hb dX6_undo_25 (by decide) ?_
    refine lv_iadd hx hb dX6_undo_27 ?_
    refine lv_bipush (v := 16) hx hb dX6_undo_28 (by decide) ?_
    refine lv_irem hx hb dX6_undo_30 (by decide) ?_
    refine va_put (D := (dC, dI)) (ci := 5) (v := .int ((vt_next + (15:Int32)) - (vt_next + (15:Int32)) / (16:Int32) * (16:Int32))) (ty := .int) (C := RX6) (T := TX6) (N := 19) hx hb hts hinX6 tyX6 tyX6_ok nmX6 hown hK hP hD hS 0 rfl rfl 9 (by decide) hw1 (fun _ h9 => h9) rfl (by decide +kernel) rfl rfl (Nat.le_of_ble_eq_true rfl) dX6_undo_31 (fun H locs hP hD hS => ?_)
    have hP : va_P (dC, dI) vwCl [(ht, .inr (5, [.int vt_clerks, .ref ht_drops, .ref ht_tires, .ref ht_now, .ref ht_told, .ref ht_text, .int vt_length, .ref ht_pages, .int (vt_acts - (1:Int32)), .int ((vt_next + (15:Int32)) - (vt_next + (15:Int32)) / (16:Int32) * (16:Int32)), .ref ht_row, .int vt_found, .ref ht_alike, .ref ht_table, .ref ht_keys, .ref ht_own, .long vt_seed, .ref ht_isKept, .ref ht_kept])), (ht_now, .inl (cI, 13, .inl vt_now)), (ht_row, .inl (cI, 208, .inl vt_row))] H := hP
    have hD : va_D A [(ht, .inr (5, [.int vt_clerks, .ref ht_drops, .ref ht_tires, .ref ht_now, .ref ht_told, .ref ht_text, .int vt_length, .ref ht_pages, .int (vt_acts - (1:Int32)), .int ((vt_next + (15:Int32)) - (vt_next + (15:Int32)) / (16:Int32) * (16:Int32)), .ref ht_row, .int vt_found, .ref ht_alike, .ref ht_table, .ref ht_keys, .ref ht_own, .long vt_seed, .ref ht_isKept, .ref ht_kept])), (ht_now, .inl (cI, 13, .inl vt_now)), (ht_row, .inl (cI, 208, .inl vt_row))] := hD
    refine lv_iconst (v := 0) hx hb dX6_undo_34 (by decide) ?_
    refine lv_istore_n (lv' := [(1, .int (0:Int32)), (0, .ref ht)]) hx hb dX6_undo_35 rfl hl (by decide) rfl (fun ls hl => ?_)
    have ex36 : ∀ (z1_36 : Int32) (zvt_now_36 : (Nat → Int32)) (H : Heap) (locs : List Loc) (ls : Array Slot), va_P (dC, dI) vwCl [(ht, .inr (5, [.int vt_clerks, .ref ht_drops, .ref ht_tires, .ref ht_now, .ref ht_told, .ref ht_text, .int vt_length, .ref ht_pages, .int (vt_acts - (1:Int32)), .int ((vt_next + (15:Int32)) - (vt_next + (15:Int32)) / (16:Int32) * (16:Int32)), .ref ht_row, .int vt_found, .ref ht_alike, .ref ht_table, .ref ht_keys, .ref ht_own, .long vt_seed, .ref ht_isKept, .ref ht_kept])), (ht_now, .inl (cI, 13, .inl zvt_now_36)), (ht_row, .inl (cI, 208, .inl vt_row))] H → va_D A [(ht, .inr (5, [.int vt_clerks, .ref ht_drops, .ref ht_tires, .ref ht_now, .ref ht_told, .ref ht_text, .int vt_length, .ref ht_pages, .int (vt_acts - (1:Int32)), .int ((vt_next + (15:Int32)) - (vt_next + (15:Int32)) / (16:Int32) * (16:Int32)), .ref ht_row, .int vt_found, .ref ht_alike, .ref ht_table, .ref ht_keys, .ref ht_own, .long vt_seed, .ref ht_isKept, .ref ht_kept])), (ht_now, .inl (cI, 13, .inl zvt_now_36)), (ht_row, .inl (cI, 208, .inl vt_row))] → va_S A s.heap H locs → lv_has ls 2 [(1, .int z1_36), (0, .ref ht)] → (some ((vt_acts - (1:Int32)), ((vt_acts - (1:Int32)), ((vt_next + (15:Int32)) - (vt_next + (15:Int32)) / (16:Int32) * (16:Int32)), zvt_now_36))) = some R → W p l e (rm_X6_undo) s m ([.ref ht] : List Value).toArray below meth c H locs 0 0 (MQ below (q_X6_undo dC dI cI cJ cZ ht ht_drops ht_tires ht_now ht_told ht_text ht_pages ht_row ht_alike ht_table ht_keys ht_own ht_isKept ht_kept vt_clerks vt_length vt_found vt_seed vt_row R A) ([.ref ht] : List Value).toArray s 0 0 A) (F0 m 68 ls []) := by
      intro z1_36 zvt_now_36 H locs ls hP hD hS hl hf
      refine lv_aload_n hx hb dX6_undo_68 rfl (lv_at hl 1 rfl) ?_
      refine va_get (D := (dC, dI)) (ci := 5) (v := .int (vt_acts - (1:Int32))) (C := RX6) (T := TX6) (N := 19) hx hb hts hinX6 hown hK hP 0 rfl rfl 8 (by decide) hw0 (fun _ h9 => h9) rfl dX6_undo_69 ?_
      have he := Option.some.inj hf
      have hP9 := hP
      have hD9 := hD
      exact W.iret (v := (vt_acts - (1:Int32))) hx hb hr (fun t eth hW => ⟨⟨(vt_acts - (1:Int32)), ((vt_acts - (1:Int32)), ((vt_next + (15:Int32)) - (vt_next + (15:Int32)) / (16:Int32) * (16:Int32)), zvt_now_36), rfl, ⟨(congrArg Prod.fst he).symm, (congrArg Prod.snd he).symm⟩, by rw [eth]; exact hP9, va_K.moved hW.alike hK, hD9⟩, hS.F eth⟩) hS.2.2 dX6_undo_72
    have lp36 : ∀ (n36 : Nat) (y1_36 : Int32) (yvt_now_36 : (Nat → Int32)) (H : Heap) (locs : List Loc) (ls : Array Slot), va_P (dC, dI) vwCl [(ht, .inr (5, [.int vt_clerks, .ref ht_drops, .ref ht_tires, .ref ht_now, .ref ht_told, .ref ht_text, .int vt_length, .ref ht_pages, .int (vt_acts - (1:Int32)), .int ((vt_next + (15:Int32)) - (vt_next + (15:Int32)) / (16:Int32) * (16:Int32)), .ref ht_row, .int vt_found, .ref ht_alike, .ref ht_table, .ref ht_keys, .ref ht_own, .long vt_seed, .ref ht_isKept, .ref ht_kept])), (ht_now, .inl (cI, 13, .inl yvt_now_36)), (ht_row, .inl (cI, 208, .inl vt_row))] H → va_D A [(ht, .inr (5, [.int vt_clerks, .ref ht_drops, .ref ht_tires, .ref ht_now, .ref ht_told, .ref ht_text, .int vt_length, .ref ht_pages, .int (vt_acts - (1:Int32)), .int ((vt_next + (15:Int32)) - (vt_next + (15:Int32)) / (16:Int32) * (16:Int32)), .ref ht_row, .int vt_found, .ref ht_alike, .ref ht_table, .ref ht_keys, .ref ht_own, .long vt_seed, .ref ht_isKept, .ref ht_kept])), (ht_now, .inl (cI, 13, .inl yvt_now_36)), (ht_row, .inl (cI, 208, .inl vt_row))] → va_S A s.heap H locs → lv_has ls 2 [(1, .int y1_36), (0, .ref ht)] → f_X6_undo_36 N vt_next vt_row (fun z1_36 zvt_now_36 => some ((vt_acts - (1:Int32)), ((vt_acts - (1:Int32)), ((vt_next + (15:Int32)) - (vt_next + (15:Int32)) / (16:Int32) * (16:Int32)), zvt_now_36))) n36 y1_36 yvt_now_36 = some R → W p l e (rm_X6_undo) s m ([.ref ht] : List Value).toArray below meth c H locs 0 0 (MQ below (q_X6_undo dC dI cI cJ cZ ht ht_drops ht_tires ht_now ht_told ht_text ht_pages ht_row ht_alike ht_table ht_keys ht_own ht_isKept ht_kept vt_clerks vt_length vt_found vt_seed vt_row R A) ([.ref ht] : List Value).toArray s 0 0 A) (F0 m 36 ls []) := by
      intro n36
      induction n36 with
      | zero => intro y1_36 yvt_now_36 H locs ls hP hD hS hl hf; rw [f_X6_undo_36] at hf; cases hf
      | succ n36 ih36 =>
        intro y1_36 yvt_now_36 H locs ls hP hD hS hl hf
        rw [f_X6_undo_36] at hf
        refine lv_iload_n hx hb dX6_undo_36 rfl (lv_at hl 0 rfl) ?_
        refine lv_bipush (v := 13) hx hb dX6_undo_37 (by decide) ?_
        refine lv_icmp_ge (tgt := 68) hx hb dX6_undo_39 (by decide) (fun c2 => ?_) (fun c2 => ?_)
        · replace hf := dg_t c2 hf
          exact ex36 y1_36 yvt_now_36 _ _ _ hP hD hS (lv_sub hl [0, 1] rfl) hf
        · replace hf := dg_f c2 hf
          refine lv_aload_n hx hb dX6_undo_42 rfl (lv_at hl 1 rfl) ?_
          refine va_get (D := (dC, dI)) (ci := 5) (v := .ref ht_now) (C := RX6) (T := TX6) (N := 19) hx hb hts hinX6 hown hK hP 0 rfl rfl 3 (by decide) hw2 (fun _ h9 => h9) rfl dX6_undo_43 ?_
          refine lv_iload_n hx hb dX6_undo_46 rfl (lv_at hl 0 rfl) ?_
          refine lv_aload_n hx hb dX6_undo_47 rfl (lv_at hl 1 rfl) ?_
          refine va_get (D := (dC, dI)) (ci := 5) (v := .ref ht_row) (C := RX6) (T := TX6) (N := 19) hx hb hts hinX6 hown hK hP 0 rfl rfl 10 (by decide) hw3 (fun _ h9 => h9) rfl dX6_undo_48 ?_
          refine lv_bipush (v := 13) hx hb dX6_undo_51 (by decide) ?_
          refine lv_aload_n hx hb dX6_undo_53 rfl (lv_at hl 1 rfl) ?_
          refine va_get (D := (dC, dI)) (ci := 5) (v := .int ((vt_next + (15:Int32)) - (vt_next + (15:Int32)) / (16:Int32) * (16:Int32))) (C := RX6) (T := TX6) (N := 19) hx hb hts hinX6 hown hK hP 0 rfl rfl 9 (by decide) hw1 (fun _ h9 => h9) rfl dX6_undo_54 ?_
          refine lv_imul hx hb dX6_undo_57 ?_
          refine lv_iload_n hx hb dX6_undo_58 rfl (lv_at hl 0 rfl) ?_
          refine lv_iadd hx hb dX6_undo_59 ?_
          obtain ⟨hi3, hf⟩ := dg_ix hf
          refine va_iald hx hb hK hP 2 0 rfl rfl hi3 dX6_undo_60 ?_
          obtain ⟨hi4, hf⟩ := dg_ix hf
          refine va_iast hx hb hK hP hD hS 1 0 rfl rfl hi4 dX6_undo_61 (fun H locs hP hD hS => ?_)
          have hP : va_P (dC, dI) vwCl [(ht, .inr (5, [.int vt_clerks, .ref ht_drops, .ref ht_tires, .ref ht_now, .ref ht_told, .ref ht_text, .int vt_length, .ref ht_pages, .int (vt_acts - (1:Int32)), .int ((vt_next + (15:Int32)) - (vt_next + (15:Int32)) / (16:Int32) * (16:Int32)), .ref ht_row, .int vt_found, .ref ht_alike, .ref ht_table, .ref ht_keys, .ref ht_own, .long vt_seed, .ref ht_isKept, .ref ht_kept])), (ht_now, .inl (cI, 13, .inl (upd yvt_now_36 y1_36.toNatClampNeg (vt_row (((13:Int32) * ((vt_next + (15:Int32)) - (vt_next + (15:Int32)) / (16:Int32) * (16:Int32))) + y1_36).toNatClampNeg)))), (ht_row, .inl (cI, 208, .inl vt_row))] H := hP
          have hD : va_D A [(ht, .inr (5, [.int vt_clerks, .ref ht_drops, .ref ht_tires, .ref ht_now, .ref ht_told, .ref ht_text, .int vt_length, .ref ht_pages, .int (vt_acts - (1:Int32)), .int ((vt_next + (15:Int32)) - (vt_next + (15:Int32)) / (16:Int32) * (16:Int32)), .ref ht_row, .int vt_found, .ref ht_alike, .ref ht_table, .ref ht_keys, .ref ht_own, .long vt_seed, .ref ht_isKept, .ref ht_kept])), (ht_now, .inl (cI, 13, .inl (upd yvt_now_36 y1_36.toNatClampNeg (vt_row (((13:Int32) * ((vt_next + (15:Int32)) - (vt_next + (15:Int32)) / (16:Int32) * (16:Int32))) + y1_36).toNatClampNeg)))), (ht_row, .inl (cI, 208, .inl vt_row))] := hD
          refine lv_iinc (v := (y1_36 + (1:Int32))) (lv' := [(1, .int (y1_36 + (1:Int32))), (0, .ref ht)]) hx hb dX6_undo_62 hl (k := 0) rfl (by first | rfl | decide) (by decide) rfl (fun ls hl => ?_)
          refine lv_goto (tgt := 36) hx hb dX6_undo_65 (by decide) ?_
          exact ih36 (y1_36 + (1:Int32)) (upd yvt_now_36 y1_36.toNatClampNeg (vt_row (((13:Int32) * ((vt_next + (15:Int32)) - (vt_next + (15:Int32)) / (16:Int32) * (16:Int32))) + y1_36).toNatClampNeg)) _ _ _ hP hD hS (lv_sub hl [0, 1] rfl) hf
    exact lp36 N (0:Int32) vt_now _ _ _ hP hD hS hl hf
  · replace hf := dg_t c1 hf
    refine lv_bipush (v := -3) hx hb dX6_undo_7 (by decide) ?_
    have he := Option.some.inj hf
    have hP9 := hP
    have hD9 := hD
    exact W.iret (v := (-3:Int32)) hx hb hr (fun t eth hW => ⟨⟨(-3:Int32), (vt_acts, vt_next, vt_now), rfl, ⟨(congrArg Prod.fst he).symm, (congrArg Prod.snd he).symm⟩, by rw [eth]; exact hP9, va_K.moved hW.alike hK, hD9⟩, hS.F eth⟩) hS.2.2 dX6_undo_9
theorem hd_X6_toldWords : yX6_toldWords.cls = RX6 ∧ yX6_toldWords.cls ≠ "java/lang/invoke/MethodHandle" ∧ yX6_toldWords.cls ≠ "java/lang/invoke/VarHandle" ∧ (parseMethodDescriptor yX6_toldWords.desc).map (fun d => d.parameters.length) = some 1 := by decide +kernel
abbrev rm_X6_toldWords : Room := { frames := 1, cells := 0, slots := 0, locals := 20 }
abbrev q_X6_toldWords (dC : Nat → ClassId) (dI : Nat → Nat → Nat) (cI cJ cZ : ClassId) (ht ht_drops ht_tires ht_now ht_told ht_text ht_pages ht_row ht_alike ht_table ht_keys ht_own ht_isKept ht_kept : Nat) (vt_clerks : Int32) (vt_length : Int32) (vt_acts : Int32) (vt_next : Int32) (vt_found : Int32) (vt_seed : Int64) (vt_told : Nat → Int32) (R : Int32) (A : Nat → Prop) : Array Value → State → Outcome → State → Prop := va_Qi (fun (r : Int32) (_ : Unit) => R = r) (fun (u : Unit) (t : State) => va_P (dC, dI) vwCl [(ht, .inr (5, [.int vt_clerks, .ref ht_drops, .ref ht_tires, .ref ht_now, .ref ht_told, .ref ht_text, .int vt_length, .ref ht_pages, .int vt_acts, .int vt_next, .ref ht_row, .int vt_found, .ref ht_alike, .ref ht_table, .ref ht_keys, .ref ht_own, .long vt_seed, .ref ht_isKept, .ref ht_kept])), (ht_told, .inl (cI, 4, .inl vt_told))] t.heap ∧ va_K (dC, dI) vwCl [(cI, .int), (cJ, .long), (cZ, .boolean)] t ∧ va_D A [(ht, .inr (5, [.int vt_clerks, .ref ht_drops, .ref ht_tires, .ref ht_now, .ref ht_told, .ref ht_text, .int vt_length, .ref ht_pages, .int vt_acts, .int vt_next, .ref ht_row, .int vt_found, .ref ht_alike, .ref ht_table, .ref ht_keys, .ref ht_own, .long vt_seed, .ref ht_isKept, .ref ht_kept])), (ht_told, .inl (cI, 4, .inl vt_told))]) A
set_option maxHeartbeats 4000000 in
set_option maxRecDepth 100000 in
theorem k_X6_toldWords (l : Launch) (dC : Nat → ClassId) (dI : Nat → Nat → Nat) (cI cJ cZ : ClassId) (sz : Nat) (ht ht_drops ht_tires ht_now ht_told ht_text ht_pages ht_row ht_alike ht_table ht_keys ht_own ht_isKept ht_kept : Nat) (a1 : Int32) (vt_clerks : Int32) (vt_length : Int32) (vt_acts : Int32) (vt_next : Int32) (vt_found : Int32) (vt_seed : Int64) (vt_told : Nat → Int32) (N : Nat) (R : Int32) (hf : f_X6_toldWords N a1 vt_told = some R) : Met l yX6_toldWords wsX6_toldWords (rm_X6_toldWords) (va_Pc [.ref ht, .int a1] (fun U => U.heap.size = sz ∧ va_P (dC, dI) vwCl [(ht, .inr (5, [.int vt_clerks, .ref ht_drops, .ref ht_tires, .ref ht_now, .ref ht_told, .ref ht_text, .int vt_length, .ref ht_pages, .int vt_acts, .int vt_next, .ref ht_row, .int vt_found, .ref ht_alike, .ref ht_table, .ref ht_keys, .ref ht_own, .long vt_seed, .ref ht_isKept, .ref ht_kept])), (ht_told, .inl (cI, 4, .inl vt_told))] U.heap ∧ va_K (dC, dI) vwCl [(cI, .int), (cJ, .long), (cZ, .boolean)] U ∧ va_D (fun _ => True) [(ht, .inr (5, [.int vt_clerks, .ref ht_drops, .ref ht_tires, .ref ht_now, .ref ht_told, .ref ht_text, .int vt_length, .ref ht_pages, .int vt_acts, .int vt_next, .ref ht_row, .int vt_found, .ref ht_alike, .ref ht_table, .ref ht_keys, .ref ht_own, .long vt_seed, .ref ht_isKept, .ref ht_kept])), (ht_told, .inl (cI, 4, .inl vt_told))])) (q_X6_toldWords dC dI cI cJ cZ ht ht_drops ht_tires ht_now ht_told ht_text ht_pages ht_row ht_alike ht_table ht_keys ht_own ht_isKept ht_kept vt_clerks vt_length vt_acts vt_next vt_found vt_seed vt_told R (va_A [(ht, .inr (5, [.int vt_clerks, .ref ht_drops, .ref ht_tires, .ref ht_now, .ref ht_told, .ref ht_text, .int vt_length, .ref ht_pages, .int vt_acts, .int vt_next, .ref ht_row, .int vt_found, .ref ht_alike, .ref ht_table, .ref ht_keys, .ref ht_own, .long vt_seed, .ref ht_isKept, .ref ht_kept])), (ht_told, .inl (cI, 4, .inl vt_told))] sz)) 0 0 (va_A [(ht, .inr (5, [.int vt_clerks, .ref ht_drops, .ref ht_tires, .ref ht_now, .ref ht_told, .ref ht_text, .int vt_length, .ref ht_pages, .int vt_acts, .int vt_next, .ref ht_row, .int vt_found, .ref ht_alike, .ref ht_table, .ref ht_keys, .ref ht_own, .long vt_seed, .ref ht_isKept, .ref ht_kept])), (ht_told, .inl (cI, 4, .inl vt_told))] sz) := by
  refine Met.ofW (cc := cX6_toldWords) (maxL := 2) (ret := (some .int)) (by decide) rfl ?_
  intro p e s m args below meth c s₁ B hml hv
  obtain ⟨rfl, hsz, hP, hK, hD0⟩ := hv
  have hx := B.exec
  have hb := B.bytes
  have hr := B.returns
  have hts := atoms_spec (ws := wsX6_toldWords) B.pre
  have hown : s.vm.findClass RX6 = some m.cls := findClass_of_methodNamed B.named
  have hlocks := B.notSynchronized
  clear B
  subst hsz
  have hw0 := hts (.fieldLink RX6 19 "ShorthandCourtModel" "told" "[I") (by decide +kernel)
  have hinX6 : ∀ w ∈ u_ws RX6 TX6 19, w ∈ wsX6_toldWords := by decide +kernel
  have hD := hD0.self (sz := s.heap.size)
  clear hD0
  generalize hAe : va_A [(ht, .inr (5, [.int vt_clerks, .ref ht_drops, .ref ht_tires, .ref ht_now, .ref ht_told, .ref ht_text, .int vt_length, .ref ht_pages, .int vt_acts, .int vt_next, .ref ht_row, .int vt_found, .ref ht_alike, .ref ht_table, .ref ht_keys, .ref ht_own, .long vt_seed, .ref ht_isKept, .ref ht_kept])), (ht_told, .inl (cI, 4, .inl vt_told))] s.heap.size = A at hD ⊢
  have hA : ∀ q : Nat, s.heap.size ≤ q → A q := fun q h => by rw [← hAe]; exact Or.inr h
  clear hAe
  have hS : va_S A s.heap s.heap [] := va_S.rf
  have hl := lv_entry ([.ref ht, .int a1]) (n := 2) (Nat.le_of_ble_eq_true rfl)
  rw [lg_entry_eq]
  generalize (lg_sl ([.ref ht, .int a1]) ++ List.replicate (2 - (lg_sl ([.ref ht, .int a1])).length) Slot.unset).toArray = ls at hl ⊢
  have hl : lv_has ls 2 [(0, .ref ht), (1, .int a1)] := hl
  unfold f_X6_toldWords at hf
  refine lv_aload_n hx hb dX6_toldWords_0 rfl (lv_at hl 0 rfl) ?_
  refine va_get (D := (dC, dI)) (ci := 5) (v := .ref ht_told) (C := RX6) (T := TX6) (N := 19) hx hb hts hinX6 hown hK hP 0 rfl rfl 4 (by decide) hw0 (fun _ h9 => h9) rfl dX6_toldWords_1 ?_
  refine lv_iload_n hx hb dX6_toldWords_4 rfl (lv_at hl 1 rfl) ?_
  obtain ⟨hi1, hf⟩ := dg_ix hf
  refine va_iald hx hb hK hP 1 0 rfl rfl hi1 dX6_toldWords_5 ?_
  refine lv_bipush (v := -9) hx hb dX6_toldWords_6 (by decide) ?_
  refine lv_icmp_ne (tgt := 16) hx hb dX6_toldWords_8 (by decide) (fun c2 => ?_) (fun c2 => ?_)
  · replace hf := dg_f c2 hf
    refine lv_aload_n hx hb dX6_toldWords_16 rfl (lv_at hl 0 rfl) ?_
    refine va_get (D := (dC, dI)) (ci := 5) (v := .ref ht_told) (C := RX6) (T := TX6) (N := 19) hx hb hts hinX6 hown hK hP 0 rfl rfl 4 (by decide) hw0 (fun _ h9 => h9) rfl dX6_toldWords_17 ?_
    refine lv_iload_n hx hb dX6_toldWords_20 rfl (lv_at hl 1 rfl) ?_
    obtain ⟨hi3, hf⟩ := dg_ix hf
    refine va_iald hx hb hK hP 1 0 rfl rfl hi3 dX6_toldWords_21 ?_
    obtain ⟨x4, hx4, hf⟩ := dg_bind hf
    have hPc : va_P (dC, dI) vwCl [] s.heap := hP.sub [] rfl
    have hDc : va_D A [] := hD.sub [] (by decide) rfl
    have hFc := va_free (wc := []) hD hS hA [] rfl
    refine va_calli (va_runS (As := [.int (vt_told a1.toNatClampNeg)]) (rest := []) ⟨hx, hb, hml, hown, hts⟩ (k_X6_wordsOf l dC dI cI cJ cZ s.heap.size (vt_told a1.toNatClampNeg) N x4 hx4) (va_cwS 1 hts gX6_toldWords_X6_wordsOf rfl rfl rfl hd_X6_wordsOf ⟨Nat.le_of_ble_eq_true rfl, Nat.le_of_ble_eq_true rfl⟩) ⟨blind_pc, pre_pc hPc hK hDc⟩ rfl rfl hl.1 rfl (lv_room (Nat.le_of_ble_eq_true rfl)) dX6_toldWords_22 ⟨Nat.zero_le _, Nat.zero_le _⟩) hS (fun q _ h => hFc q h) hFc (fun r u t H1 locs eth hvm hw hB hz1 hk1 hS => ?_)
    obtain ⟨hP1, hK1, hD1⟩ := hB
    rw [eth] at hP1
    subst hw
    obtain ⟨hP, hD⟩ := va_join (wr := [(ht, .inr (5, [.int vt_clerks, .ref ht_drops, .ref ht_tires, .ref ht_now, .ref ht_told, .ref ht_text, .int vt_length, .ref ht_pages, .int vt_acts, .int vt_next, .ref ht_row, .int vt_found, .ref ht_alike, .ref ht_table, .ref ht_keys, .ref ht_own, .long vt_seed, .ref ht_isKept, .ref ht_kept])), (ht_told, .inl (cI, 4, .inl vt_told))]) (w1 := []) hP hD [] [0, 1] rfl rfl (by decide) (by decide) hk1 hFc hP1 hD1
    clear hP1 hK1 hD1 hPc hDc hFc hk1 hz1 hvm eth
    generalize H1 = H at hP hS ⊢
    have hP : va_P (dC, dI) vwCl [(ht, .inr (5, [.int vt_clerks, .ref ht_drops, .ref ht_tires, .ref ht_now, .ref ht_told, .ref ht_text, .int vt_length, .ref ht_pages, .int vt_acts, .int vt_next, .ref ht_row, .int vt_found, .ref ht_alike, .ref ht_table, .ref ht_keys, .ref ht_own, .long vt_seed, .ref ht_isKept, .ref ht_kept])), (ht_told, .inl (cI, 4, .inl vt_told))] H := hP
    have hD : va_D A [(ht, .inr (5, [.int vt_clerks, .ref ht_drops, .ref ht_tires, .ref ht_now, .ref ht_told, .ref ht_text, .int vt_length, .ref ht_pages, .int vt_acts, .int vt_next, .ref ht_row, .int vt_found, .ref ht_alike, .ref ht_table, .ref ht_keys, .ref ht_own, .long vt_seed, .ref ht_isKept, .ref ht_kept])), (ht_told, .inl (cI, 4, .inl vt_told))] := hD
    have he := Option.some.inj hf
    have hP9 := hP
    have hD9 := hD
    exact W.iret (v := x4) hx hb hr (fun t eth hW => ⟨⟨x4, (), rfl, he.symm, by rw [eth]; exact hP9, va_K.moved hW.alike hK, hD9⟩, hS.F eth⟩) hS.2.2 dX6_toldWords_25
  · replace hf := dg_t c2 hf
    refine lv_bipush (v := -9) hx hb dX6_toldWords_11 (by decide) ?_
    refine lv_goto (tgt := 25) hx hb dX6_toldWords_13 (by decide) ?_
    have he := Option.some.inj hf
    have hP9 := hP
    have hD9 := hD
    exact W.iret (v := (-9:Int32)) hx hb hr (fun t eth hW => ⟨⟨(-9:Int32), (), rfl, he.symm, by rw [eth]; exact hP9, va_K.moved hW.alike hK, hD9⟩, hS.F eth⟩) hS.2.2 dX6_toldWords_25
theorem hd_X6_open : yX6_open.cls = RX6 ∧ yX6_open.cls ≠ "java/lang/invoke/MethodHandle" ∧ yX6_open.cls ≠ "java/lang/invoke/VarHandle" ∧ (parseMethodDescriptor yX6_open.desc).map (fun d => d.parameters.length) = some 1 := by decide +kernel
abbrev rm_X6_open : Room := { frames := 2, cells := 0, slots := 0, locals := 46 }
abbrev q_X6_open (dC : Nat → ClassId) (dI : Nat → Nat → Nat) (cI cJ cZ : ClassId) (ht ht_drops ht_tires ht_now ht_told ht_text ht_pages ht_row ht_alike ht_table ht_keys ht_own ht_isKept ht_kept : Nat) (vt_clerks : Int32) (vt_length : Int32) (vt_acts : Int32) (vt_next : Int32) (vt_found : Int32) (vt_seed : Int64) (R : Int32 × (Nat → Int32)) (A : Nat → Prop) : Array Value → State → Outcome → State → Prop := va_Qi (fun (r : Int32) (u : (Nat → Int32)) => R.1 = r ∧ R.2 = u) (fun (u : (Nat → Int32)) (t : State) => va_P (dC, dI) vwCl [(ht, .inr (5, [.int vt_clerks, .ref ht_drops, .ref ht_tires, .ref ht_now, .ref ht_told, .ref ht_text, .int vt_length, .ref ht_pages, .int vt_acts, .int vt_next, .ref ht_row, .int vt_found, .ref ht_alike, .ref ht_table, .ref ht_keys, .ref ht_own, .long vt_seed, .ref ht_isKept, .ref ht_kept])), (ht_told, .inl (cI, 4, .inl u))] t.heap ∧ va_K (dC, dI) vwCl [(cI, .int), (cJ, .long), (cZ, .boolean)] t ∧ va_D A [(ht, .inr (5, [.int vt_clerks, .ref ht_drops, .ref ht_tires, .ref ht_now, .ref ht_told, .ref ht_text, .int vt_length, .ref ht_pages, .int vt_acts, .int vt_next, .ref ht_row, .int vt_found, .ref ht_alike, .ref ht_table, .ref ht_keys, .ref ht_own, .long vt_seed, .ref ht_isKept, .ref ht_kept])), (ht_told, .inl (cI, 4, .inl u))]) A
set_option maxHeartbeats 4000000 in
set_option maxRecDepth 100000 in
theorem k_X6_open (l : Launch) (dC : Nat → ClassId) (dI : Nat → Nat → Nat) (cI cJ cZ : ClassId) (sz : Nat) (ht ht_drops ht_tires ht_now ht_told ht_text ht_pages ht_row ht_alike ht_table ht_keys ht_own ht_isKept ht_kept : Nat) (a1 : Int32) (vt_clerks : Int32) (vt_length : Int32) (vt_acts : Int32) (vt_next : Int32) (vt_found : Int32) (vt_seed : Int64) (vt_told : Nat → Int32) (N : Nat) (R : Int32 × (Nat → Int32)) (hf : f_X6_open N a1 vt_clerks vt_told = some R) : Met l yX6_open wsX6_open (rm_X6_open) (va_Pc [.ref ht, .int a1] (fun U => U.heap.size = sz ∧ va_P (dC, dI) vwCl [(ht, .inr (5, [.int vt_clerks, .ref ht_drops, .ref ht_tires, .ref ht_now, .ref ht_told, .ref ht_text, .int vt_length, .ref ht_pages, .int vt_acts, .int vt_next, .ref ht_row, .int vt_found, .ref ht_alike, .ref ht_table, .ref ht_keys, .ref ht_own, .long vt_seed, .ref ht_isKept, .ref ht_kept])), (ht_told, .inl (cI, 4, .inl vt_told))] U.heap ∧ va_K (dC, dI) vwCl [(cI, .int), (cJ, .long), (cZ, .boolean)] U ∧ va_D (fun _ => True) [(ht, .inr (5, [.int vt_clerks, .ref ht_drops, .ref ht_tires, .ref ht_now, .ref ht_told, .ref ht_text, .int vt_length, .ref ht_pages, .int vt_acts, .int vt_next, .ref ht_row, .int vt_found, .ref ht_alike, .ref ht_table, .ref ht_keys, .ref ht_own, .long vt_seed, .ref ht_isKept, .ref ht_kept])), (ht_told, .inl (cI, 4, .inl vt_told))])) (q_X6_open dC dI cI cJ cZ ht ht_drops ht_tires ht_now ht_told ht_text ht_pages ht_row ht_alike ht_table ht_keys ht_own ht_isKept ht_kept vt_clerks vt_length vt_acts vt_next vt_found vt_seed R (va_A [(ht, .inr (5, [.int vt_clerks, .ref ht_drops, .ref ht_tires, .ref ht_now, .ref ht_told, .ref ht_text, .int vt_length, .ref ht_pages, .int vt_acts, .int vt_next, .ref ht_row, .int vt_found, .ref ht_alike, .ref ht_table, .ref ht_keys, .ref ht_own, .long vt_seed, .ref ht_isKept, .ref ht_kept])), (ht_told, .inl (cI, 4, .inl vt_told))] sz)) 0 0 (va_A [(ht, .inr (5, [.int vt_clerks, .ref ht_drops, .ref ht_tires, .ref ht_now, .ref ht_told, .ref ht_text, .int vt_length, .ref ht_pages, .int vt_acts, .int vt_next, .ref ht_row, .int vt_found, .ref ht_alike, .ref ht_table, .ref ht_keys, .ref ht_own, .long vt_seed, .ref ht_isKept, .ref ht_kept])), (ht_told, .inl (cI, 4, .inl vt_told))] sz) := by
  refine Met.ofW (cc := cX6_open) (maxL := 3) (ret := (some .int)) (by decide) rfl ?_
  intro p e s m args below meth c s₁ B hml hv
  obtain ⟨rfl, hsz, hP, hK, hD0⟩ := hv
  have hx := B.exec
  have hb := B.bytes
  have hr := B.returns
  have hts := atoms_spec (ws := wsX6_open) B.pre
  have hown : s.vm.findClass RX6 = some m.cls := findClass_of_methodNamed B.named
  have hlocks := B.notSynchronized
  clear B
  subst hsz
  have hw0 := hts (.fieldLink RX6 19 "ShorthandCourtModel" "told" "[I") (by decide +kernel)
  have hinX6 : ∀ w ∈ u_ws RX6 TX6 19, w ∈ wsX6_open := by decide +kernel
  have hD := hD0.self (sz := s.heap.size)
  clear hD0
  generalize hAe : va_A [(ht, .inr (5, [.int vt_clerks, .ref ht_drops, .ref ht_tires, .ref ht_now, .ref ht_told, .ref ht_text, .int vt_length, .ref ht_pages, .int vt_acts, .int vt_next, .ref ht_row, .int vt_found, .ref ht_alike, .ref ht_table, .ref ht_keys, .ref ht_own, .long vt_seed, .ref ht_isKept, .ref ht_kept])), (ht_told, .inl (cI, 4, .inl vt_told))] s.heap.size = A at hD ⊢
  have hA : ∀ q : Nat, s.heap.size ≤ q → A q := fun q h => by rw [← hAe]; exact Or.inr h
  clear hAe
  have hS : va_S A s.heap s.heap [] := va_S.rf
  have hl := lv_entry ([.ref ht, .int a1]) (n := 3) (Nat.le_of_ble_eq_true rfl)
  rw [lg_entry_eq]
  generalize (lg_sl ([.ref ht, .int a1]) ++ List.replicate (3 - (lg_sl ([.ref ht, .int a1])).length) Slot.unset).toArray = ls at hl ⊢
  have hl : lv_has ls 3 [(0, .ref ht), (1, .int a1)] := hl
  unfold f_X6_open at hf
  refine lv_aload_n hx hb dX6_open_0 rfl (lv_at hl 0 rfl) ?_
  refine lv_iload_n hx hb dX6_open_1 rfl (lv_at hl 1 rfl) ?_
  obtain ⟨x1, hx1, hf⟩ := dg_bind hf
  have hPc : va_P (dC, dI) vwCl [(ht, .inr (5, [.int vt_clerks, .ref ht_drops, .ref ht_tires, .ref ht_now, .ref ht_told, .ref ht_text, .int vt_length, .ref ht_pages, .int vt_acts, .int vt_next, .ref ht_row, .int vt_found, .ref ht_alike, .ref ht_table, .ref ht_keys, .ref ht_own, .long vt_seed, .ref ht_isKept, .ref ht_kept]))] s.heap := hP.sub [0] rfl
  have hDc : va_D A [(ht, .inr (5, [.int vt_clerks, .ref ht_drops, .ref ht_tires, .ref ht_now, .ref ht_told, .ref ht_text, .int vt_length, .ref ht_pages, .int vt_acts, .int vt_next, .ref ht_row, .int vt_found, .ref ht_alike, .ref ht_table, .ref ht_keys, .ref ht_own, .long vt_seed, .ref ht_isKept, .ref ht_kept]))] := hD.sub [0] (by decide) rfl
  have hFc := va_free (wc := [(ht, .inr (5, [.int vt_clerks, .ref ht_drops, .ref ht_tires, .ref ht_now, .ref ht_told, .ref ht_text, .int vt_length, .ref ht_pages, .int vt_acts, .int vt_next, .ref ht_row, .int vt_found, .ref ht_alike, .ref ht_table, .ref ht_keys, .ref ht_own, .long vt_seed, .ref ht_isKept, .ref ht_kept]))]) hD hS hA [0] rfl
  refine va_calli (va_runV (As := [.int a1]) (rest := []) ⟨hx, hb, hml, hown, hts⟩ (k_X6_isClerk l dC dI cI cJ cZ s.heap.size ht ht_drops ht_tires ht_now ht_told ht_text ht_pages ht_row ht_alike ht_table ht_keys ht_own ht_isKept ht_kept a1 vt_clerks vt_length vt_acts vt_next vt_found vt_seed N x1 hx1) (cwV 1 hts gX6_open_X6_isClerk rfl rfl rfl hd_X6_isClerk ⟨Nat.le_of_ble_eq_true rfl, Nat.le_of_ble_eq_true rfl⟩) ⟨blind_pc, va_recv hK hPc (ci := 5) (q0 := 0) rfl rfl, pre_pc hPc hK hDc⟩ rfl rfl hl.1 rfl (lv_room (Nat.le_of_ble_eq_true rfl)) dX6_open_2 ⟨Nat.zero_le _, Nat.zero_le _⟩) hS (fun q _ h => hFc q h) hFc (fun r u t H1 locs eth hvm hw hB hz1 hk1 hS => ?_)
  obtain ⟨hP1, hK1, hD1⟩ := hB
  rw [eth] at hP1
  subst hw
  obtain ⟨hP, hD⟩ := va_join (wr := [(ht_told, .inl (cI, 4, .inl vt_told))]) (w1 := [(ht, .inr (5, [.int vt_clerks, .ref ht_drops, .ref ht_tires, .ref ht_now, .ref ht_told, .ref ht_text, .int vt_length, .ref ht_pages, .int vt_acts, .int vt_next, .ref ht_row, .int vt_found, .ref ht_alike, .ref ht_table, .ref ht_keys, .ref ht_own, .long vt_seed, .ref ht_isKept, .ref ht_kept]))]) hP hD [0] [1] rfl rfl (by decide) (by decide) hk1 hFc hP1 hD1
  clear hP1 hK1 hD1 hPc hDc hFc hk1 hz1 hvm eth
  generalize H1 = H at hP hS ⊢
  have hP : va_P (dC, dI) vwCl [(ht_told, .inl (cI, 4, .inl vt_told)), (ht, .inr (5, [.int vt_clerks, .ref ht_drops, .ref ht_tires, .ref ht_now, .ref ht_told, .ref ht_text, .int vt_length, .ref ht_pages, .int vt_acts, .int vt_next, .ref ht_row, .int vt_found, .ref ht_alike, .ref ht_table, .ref ht_keys, .ref ht_own, .long vt_seed, .ref ht_isKept, .ref ht_kept]))] H := hP
  have hD : va_D A [(ht_told, .inl (cI, 4, .inl vt_told)), (ht, .inr (5, [.int vt_clerks, .ref ht_drops, .ref ht_tires, .ref ht_now, .ref ht_told, .ref ht_text, .int vt_length, .ref ht_pages, .int vt_acts, .int vt_next, .ref ht_row, .int vt_found, .ref ht_alike, .ref ht_table, .ref ht_keys, .ref ht_own, .long vt_seed, .ref ht_isKept, .ref ht_kept]))] := hD
  refine lv_if_ne (tgt := 10) hx hb dX6_open_5 (by decide) (fun c2 => ?_) (fun c2 => ?_)
  · replace hf := dg_f c2 hf
    refine lv_aload_n hx hb dX6_open_10 rfl (lv_at hl 0 rfl) ?_
    refine lv_iload_n hx hb dX6_open_11 rfl (lv_at hl 1 rfl) ?_
    obtain ⟨x3, hx3, hf⟩ := dg_bind hf
    have hPc : va_P (dC, dI) vwCl [(ht, .inr (5, [.int vt_clerks, .ref ht_drops, .ref ht_tires, .ref ht_now, .ref ht_told, .ref ht_text, .int vt_length, .ref ht_pages, .int vt_acts, .int vt_next, .ref ht_row, .int vt_found, .ref ht_alike, .ref ht_table, .ref ht_keys, .ref ht_own, .long vt_seed, .ref ht_isKept, .ref ht_kept])), (ht_told, .inl (cI, 4, .inl vt_told))] H := hP.sub [1, 0] rfl
    have hDc : va_D A [(ht, .inr (5, [.int vt_clerks, .ref ht_drops, .ref ht_tires, .ref ht_now, .ref ht_told, .ref ht_text, .int vt_length, .ref ht_pages, .int vt_acts, .int vt_next, .ref ht_row, .int vt_found, .ref ht_alike, .ref ht_table, .ref ht_keys, .ref ht_own, .long vt_seed, .ref ht_isKept, .ref ht_kept])), (ht_told, .inl (cI, 4, .inl vt_told))] := hD.sub [1, 0] (by decide) rfl
    have hFc := va_free (wc := [(ht, .inr (5, [.int vt_clerks, .ref ht_drops, .ref ht_tires, .ref ht_now, .ref ht_told, .ref ht_text, .int vt_length, .ref ht_pages, .int vt_acts, .int vt_next, .ref ht_row, .int vt_found, .ref ht_alike, .ref ht_table, .ref ht_keys, .ref ht_own, .long vt_seed, .ref ht_isKept, .ref ht_kept])), (ht_told, .inl (cI, 4, .inl vt_told))]) hD hS hA [1, 0] rfl
    refine va_calli (va_runV (As := [.int a1]) (rest := []) ⟨hx, hb, hml, hown, hts⟩ (k_X6_toldWords l dC dI cI cJ cZ H.size ht ht_drops ht_tires ht_now ht_told ht_text ht_pages ht_row ht_alike ht_table ht_keys ht_own ht_isKept ht_kept a1 vt_clerks vt_length vt_acts vt_next vt_found vt_seed vt_told N x3 hx3) (cwV 1 hts gX6_open_X6_toldWords rfl rfl rfl hd_X6_toldWords ⟨Nat.le_of_ble_eq_true rfl, Nat.le_of_ble_eq_true rfl⟩) ⟨blind_pc, va_recv hK hPc (ci := 5) (q0 := 0) rfl rfl, pre_pc hPc hK hDc⟩ rfl rfl hl.1 rfl (lv_room (Nat.le_of_ble_eq_true rfl)) dX6_open_12 ⟨Nat.zero_le _, Nat.zero_le _⟩) hS (fun q _ h => hFc q h) hFc (fun r u t H1 locs eth hvm hw hB hz1 hk1 hS => ?_)
    obtain ⟨hP1, hK1, hD1⟩ := hB
    rw [eth] at hP1
    subst hw
    obtain ⟨hP, hD⟩ := va_join (wr := []) (w1 := [(ht, .inr (5, [.int vt_clerks, .ref ht_drops, .ref ht_tires, .ref ht_now, .ref ht_told, .ref ht_text, .int vt_length, .ref ht_pages, .int vt_acts, .int vt_next, .ref ht_row, .int vt_found, .ref ht_alike, .ref ht_table, .ref ht_keys, .ref ht_own, .long vt_seed, .ref ht_isKept, .ref ht_kept])), (ht_told, .inl (cI, 4, .inl vt_told))]) hP hD [1, 0] [] rfl rfl (by decide) (by decide) hk1 hFc hP1 hD1
    clear hP1 hK1 hD1 hPc hDc hFc hk1 hz1 hvm eth
    generalize H1 = H at hP hS ⊢
    have hP : va_P (dC, dI) vwCl [(ht, .inr (5, [.int vt_clerks, .ref ht_drops, .ref ht_tires, .ref ht_now, .ref ht_told, .ref ht_text, .int vt_length, .ref ht_pages, .int vt_acts, .int vt_next, .ref ht_row, .int vt_found, .ref ht_alike, .ref ht_table, .ref ht_keys, .ref ht_own, .long vt_seed, .ref ht_isKept, .ref ht_kept])), (ht_told, .inl (cI, 4, .inl vt_told))] H := hP
    have hD : va_D A [(ht, .inr (5, [.int vt_clerks, .ref ht_drops, .ref ht_tires, .ref ht_now, .ref ht_told, .ref ht_text, .int vt_length, .ref ht_pages, .int vt_acts, .int vt_next, .ref ht_row, .int vt_found, .ref ht_alike, .ref ht_table, .ref ht_keys, .ref ht_own, .long vt_seed, .ref ht_isKept, .ref ht_kept])), (ht_told, .inl (cI, 4, .inl vt_told))] := hD
    refine lv_istore_n (lv' := [(2, .int x3), (0, .ref ht), (1, .int a1)]) hx hb dX6_open_15 rfl hl (by decide) rfl (fun ls hl => ?_)
    refine lv_aload_n hx hb dX6_open_16 rfl (lv_at hl 1 rfl) ?_
    refine va_get (D := (dC, dI)) (ci := 5) (v := .ref ht_told) (C := RX6) (T := TX6) (N := 19) hx hb hts hinX6 hown hK hP 0 rfl rfl 4 (by decide) hw0 (fun _ h9 => h9) rfl dX6_open_17 ?_
    refine lv_iload_n hx hb dX6_open_20 rfl (lv_at hl 2 rfl) ?_
    refine lv_iconst (v := 0) hx hb dX6_open_21 (by decide) ?_
    obtain ⟨hi4, hf⟩ := dg_ix hf
    refine va_iast hx hb hK hP hD hS 1 0 rfl rfl hi4 dX6_open_22 (fun H locs hP hD hS => ?_)
    have hP : va_P (dC, dI) vwCl [(ht, .inr (5, [.int vt_clerks, .ref ht_drops, .ref ht_tires, .ref ht_now, .ref ht_told, .ref ht_text, .int vt_length, .ref ht_pages, .int vt_acts, .int vt_next, .ref ht_row, .int vt_found, .ref ht_alike, .ref ht_table, .ref ht_keys, .ref ht_own, .long vt_seed, .ref ht_isKept, .ref ht_kept])), (ht_told, .inl (cI, 4, .inl (upd vt_told a1.toNatClampNeg (0:Int32))))] H := hP
    have hD : va_D A [(ht, .inr (5, [.int vt_clerks, .ref ht_drops, .ref ht_tires, .ref ht_now, .ref ht_told, .ref ht_text, .int vt_length, .ref ht_pages, .int vt_acts, .int vt_next, .ref ht_row, .int vt_found, .ref ht_alike, .ref ht_table, .ref ht_keys, .ref ht_own, .long vt_seed, .ref ht_isKept, .ref ht_kept])), (ht_told, .inl (cI, 4, .inl (upd vt_told a1.toNatClampNeg (0:Int32))))] := hD
    refine lv_iload_n hx hb dX6_open_23 rfl (lv_at hl 0 rfl) ?_
    have he := Option.some.inj hf
    have hP9 := hP
    have hD9 := hD
    exact W.iret (v := x3) hx hb hr (fun t eth hW => ⟨⟨x3, (upd vt_told a1.toNatClampNeg (0:Int32)), rfl, ⟨(congrArg Prod.fst he).symm, (congrArg Prod.snd he).symm⟩, by rw [eth]; exact hP9, va_K.moved hW.alike hK, hD9⟩, hS.F eth⟩) hS.2.2 dX6_open_24
  · replace hf := dg_t c2 hf
    refine lv_iconst (v := -1) hx hb dX6_open_8 (by decide) ?_
    have he := Option.some.inj hf
    have hP9 := (hP.sub (ws' := [(ht, .inr (5, [.int vt_clerks, .ref ht_drops, .ref ht_tires, .ref ht_now, .ref ht_told, .ref ht_text, .int vt_length, .ref ht_pages, .int vt_acts, .int vt_next, .ref ht_row, .int vt_found, .ref ht_alike, .ref ht_table, .ref ht_keys, .ref ht_own, .long vt_seed, .ref ht_isKept, .ref ht_kept])), (ht_told, .inl (cI, 4, .inl vt_told))]) [1, 0] rfl)
    have hD9 := (hD.sub (ws' := [(ht, .inr (5, [.int vt_clerks, .ref ht_drops, .ref ht_tires, .ref ht_now, .ref ht_told, .ref ht_text, .int vt_length, .ref ht_pages, .int vt_acts, .int vt_next, .ref ht_row, .int vt_found, .ref ht_alike, .ref ht_table, .ref ht_keys, .ref ht_own, .long vt_seed, .ref ht_isKept, .ref ht_kept])), (ht_told, .inl (cI, 4, .inl vt_told))]) [1, 0] (by decide) rfl)
    exact W.iret (v := (-1:Int32)) hx hb hr (fun t eth hW => ⟨⟨(-1:Int32), vt_told, rfl, ⟨(congrArg Prod.fst he).symm, (congrArg Prod.snd he).symm⟩, by rw [eth]; exact hP9, va_K.moved hW.alike hK, hD9⟩, hS.F eth⟩) hS.2.2 dX6_open_9
