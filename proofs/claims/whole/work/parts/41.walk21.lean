theorem hd_X6_leaves : yX6_leaves.cls = RX6 ∧ yX6_leaves.cls ≠ "java/lang/invoke/MethodHandle" ∧ yX6_leaves.cls ≠ "java/lang/invoke/VarHandle" ∧ (parseMethodDescriptor yX6_leaves.desc).map (fun d => d.parameters.length) = some 1 := by decide +kernel
abbrev rm_X6_leaves : Room := { frames := 4, cells := 0, slots := 0, locals := 93 }
abbrev q_X6_leaves (dC : Nat → ClassId) (dI : Nat → Nat → Nat) (cI cJ cZ : ClassId) (ht ht_drops ht_tires ht_now ht_told ht_text ht_pages ht_row ht_alike ht_table ht_keys ht_own ht_isKept ht_kept : Nat) (vt_clerks : Int32) (vt_length : Int32) (vt_acts : Int32) (vt_next : Int32) (vt_found : Int32) (vt_seed : Int64) (vt_drops : Nat → Int32) (vt_tires : Nat → Int32) (vt_now : Nat → Int32) (vt_told : Nat → Int32) (R : Int32 × (Nat → Int32)) (A : Nat → Prop) : Array Value → State → Outcome → State → Prop := va_Qi (fun (r : Int32) (u : (Nat → Int32)) => R.1 = r ∧ R.2 = u) (fun (u : (Nat → Int32)) (t : State) => va_P (dC, dI) vwCl [(ht, .inr (5, [.int vt_clerks, .ref ht_drops, .ref ht_tires, .ref ht_now, .ref ht_told, .ref ht_text, .int vt_length, .ref ht_pages, .int vt_acts, .int vt_next, .ref ht_row, .int vt_found, .ref ht_alike, .ref ht_table, .ref ht_keys, .ref ht_own, .long vt_seed, .ref ht_isKept, .ref ht_kept])), (ht_drops, .inl (cI, 4, .inl vt_drops)), (ht_tires, .inl (cI, 4, .inl vt_tires)), (ht_now, .inl (cI, 13, .inl vt_now)), (ht_told, .inl (cI, 4, .inl vt_told)), (ht_pages, .inl (cI, 4, .inl u))] t.heap ∧ va_K (dC, dI) vwCl [(cI, .int), (cJ, .long), (cZ, .boolean)] t ∧ va_D A [(ht, .inr (5, [.int vt_clerks, .ref ht_drops, .ref ht_tires, .ref ht_now, .ref ht_told, .ref ht_text, .int vt_length, .ref ht_pages, .int vt_acts, .int vt_next, .ref ht_row, .int vt_found, .ref ht_alike, .ref ht_table, .ref ht_keys, .ref ht_own, .long vt_seed, .ref ht_isKept, .ref ht_kept])), (ht_drops, .inl (cI, 4, .inl vt_drops)), (ht_tires, .inl (cI, 4, .inl vt_tires)), (ht_now, .inl (cI, 13, .inl vt_now)), (ht_told, .inl (cI, 4, .inl vt_told)), (ht_pages, .inl (cI, 4, .inl u))]) A
set_option maxHeartbeats 4000000 in
set_option maxRecDepth 100000 in
theorem k_X6_leaves (l : Launch) (dC : Nat → ClassId) (dI : Nat → Nat → Nat) (cI cJ cZ : ClassId) (sz : Nat) (ht ht_drops ht_tires ht_now ht_told ht_text ht_pages ht_row ht_alike ht_table ht_keys ht_own ht_isKept ht_kept : Nat) (a1 : Int32) (vt_clerks : Int32) (vt_length : Int32) (vt_acts : Int32) (vt_next : Int32) (vt_found : Int32) (vt_seed : Int64) (vt_drops : Nat → Int32) (vt_tires : Nat → Int32) (vt_now : Nat → Int32) (vt_told : Nat → Int32) (vt_pages : Nat → Int32) (N : Nat) (R : Int32 × (Nat → Int32)) (hf : f_X6_leaves N a1 vt_clerks vt_drops vt_tires vt_now vt_told vt_pages = some R) : Met l yX6_leaves wsX6_leaves (rm_X6_leaves) (va_Pc [.ref ht, .int a1] (fun U => U.heap.size = sz ∧ va_P (dC, dI) vwCl [(ht, .inr (5, [.int vt_clerks, .ref ht_drops, .ref ht_tires, .ref ht_now, .ref ht_told, .ref ht_text, .int vt_length, .ref ht_pages, .int vt_acts, .int vt_next, .ref ht_row, .int vt_found, .ref ht_alike, .ref ht_table, .ref ht_keys, .ref ht_own, .long vt_seed, .ref ht_isKept, .ref ht_kept])), (ht_drops, .inl (cI, 4, .inl vt_drops)), (ht_tires, .inl (cI, 4, .inl vt_tires)), (ht_now, .inl (cI, 13, .inl vt_now)), (ht_told, .inl (cI, 4, .inl vt_told)), (ht_pages, .inl (cI, 4, .inl vt_pages))] U.heap ∧ va_K (dC, dI) vwCl [(cI, .int), (cJ, .long), (cZ, .boolean)] U ∧ va_D (fun _ => True) [(ht, .inr (5, [.int vt_clerks, .ref ht_drops, .ref ht_tires, .ref ht_now, .ref ht_told, .ref ht_text, .int vt_length, .ref ht_pages, .int vt_acts, .int vt_next, .ref ht_row, .int vt_found, .ref ht_alike, .ref ht_table, .ref ht_keys, .ref ht_own, .long vt_seed, .ref ht_isKept, .ref ht_kept])), (ht_drops, .inl (cI, 4, .inl vt_drops)), (ht_tires, .inl (cI, 4, .inl vt_tires)), (ht_now, .inl (cI, 13, .inl vt_now)), (ht_told, .inl (cI, 4, .inl vt_told)), (ht_pages, .inl (cI, 4, .inl vt_pages))])) (q_X6_leaves dC dI cI cJ cZ ht ht_drops ht_tires ht_now ht_told ht_text ht_pages ht_row ht_alike ht_table ht_keys ht_own ht_isKept ht_kept vt_clerks vt_length vt_acts vt_next vt_found vt_seed vt_drops vt_tires vt_now vt_told R (va_A [(ht, .inr (5, [.int vt_clerks, .ref ht_drops, .ref ht_tires, .ref ht_now, .ref ht_told, .ref ht_text, .int vt_length, .ref ht_pages, .int vt_acts, .int vt_next, .ref ht_row, .int vt_found, .ref ht_alike, .ref ht_table, .ref ht_keys, .ref ht_own, .long vt_seed, .ref ht_isKept, .ref ht_kept])), (ht_drops, .inl (cI, 4, .inl vt_drops)), (ht_tires, .inl (cI, 4, .inl vt_tires)), (ht_now, .inl (cI, 13, .inl vt_now)), (ht_told, .inl (cI, 4, .inl vt_told)), (ht_pages, .inl (cI, 4, .inl vt_pages))] sz)) 0 0 (va_A [(ht, .inr (5, [.int vt_clerks, .ref ht_drops, .ref ht_tires, .ref ht_now, .ref ht_told, .ref ht_text, .int vt_length, .ref ht_pages, .int vt_acts, .int vt_next, .ref ht_row, .int vt_found, .ref ht_alike, .ref ht_table, .ref ht_keys, .ref ht_own, .long vt_seed, .ref ht_isKept, .ref ht_kept])), (ht_drops, .inl (cI, 4, .inl vt_drops)), (ht_tires, .inl (cI, 4, .inl vt_tires)), (ht_now, .inl (cI, 13, .inl vt_now)), (ht_told, .inl (cI, 4, .inl vt_told)), (ht_pages, .inl (cI, 4, .inl vt_pages))] sz) := by
  refine Met.ofW (cc := cX6_leaves) (maxL := 10) (ret := (some .int)) (by decide) rfl ?_
  intro p e s m args below meth c s₁ B hml hv
  obtain ⟨rfl, hsz, hP, hK, hD0⟩ := hv
  have hx := B.exec
  have hb := B.bytes
  have hr := B.returns
  have hts := atoms_spec (ws := wsX6_leaves) B.pre
  have hown : s.vm.findClass RX6 = some m.cls := findClass_of_methodNamed B.named
  have hlocks := B.notSynchronized
  clear B
  subst hsz
  have hw0 := hts (.fieldLink RX6 19 "ShorthandCourtModel" "told" "[I") (by decide +kernel)
  have hw1 := hts (.fieldLink RX6 16 "ShorthandCourtModel" "now" "[I") (by decide +kernel)
  have hw2 := hts (.fieldLink RX6 25 "ShorthandCourtModel" "pages" "[I") (by decide +kernel)
  have hinX6 : ∀ w ∈ u_ws RX6 TX6 19, w ∈ wsX6_leaves := by decide +kernel
  have hD := hD0.self (sz := s.heap.size)
  clear hD0
  generalize hAe : va_A [(ht, .inr (5, [.int vt_clerks, .ref ht_drops, .ref ht_tires, .ref ht_now, .ref ht_told, .ref ht_text, .int vt_length, .ref ht_pages, .int vt_acts, .int vt_next, .ref ht_row, .int vt_found, .ref ht_alike, .ref ht_table, .ref ht_keys, .ref ht_own, .long vt_seed, .ref ht_isKept, .ref ht_kept])), (ht_drops, .inl (cI, 4, .inl vt_drops)), (ht_tires, .inl (cI, 4, .inl vt_tires)), (ht_now, .inl (cI, 13, .inl vt_now)), (ht_told, .inl (cI, 4, .inl vt_told)), (ht_pages, .inl (cI, 4, .inl vt_pages))] s.heap.size = A at hD ⊢
  have hA : ∀ q : Nat, s.heap.size ≤ q → A q := fun q h => by rw [← hAe]; exact Or.inr h
  clear hAe
  have hS : va_S A s.heap s.heap [] := va_S.rf
  have hl := lv_entry ([.ref ht, .int a1]) (n := 10) (Nat.le_of_ble_eq_true rfl)
  rw [lg_entry_eq]
  generalize (lg_sl ([.ref ht, .int a1]) ++ List.replicate (10 - (lg_sl ([.ref ht, .int a1])).length) Slot.unset).toArray = ls at hl ⊢
  have hl : lv_has ls 10 [(0, .ref ht), (1, .int a1)] := hl
  unfold f_X6_leaves at hf
  refine lv_aload_n hx hb dX6_leaves_0 rfl (lv_at hl 0 rfl) ?_
  refine lv_iload_n hx hb dX6_leaves_1 rfl (lv_at hl 1 rfl) ?_
  obtain ⟨x1, hx1, hf⟩ := dg_bind hf
  have hPc : va_P (dC, dI) vwCl [(ht, .inr (5, [.int vt_clerks, .ref ht_drops, .ref ht_tires, .ref ht_now, .ref ht_told, .ref ht_text, .int vt_length, .ref ht_pages, .int vt_acts, .int vt_next, .ref ht_row, .int vt_found, .ref ht_alike, .ref ht_table, .ref ht_keys, .ref ht_own, .long vt_seed, .ref ht_isKept, .ref ht_kept]))] s.heap := hP.sub [0] rfl
  have hDc : va_D A [(ht, .inr (5, [.int vt_clerks, .ref ht_drops, .ref ht_tires, .ref ht_now, .ref ht_told, .ref ht_text, .int vt_length, .ref ht_pages, .int vt_acts, .int vt_next, .ref ht_row, .int vt_found, .ref ht_alike, .ref ht_table, .ref ht_keys, .ref ht_own, .long vt_seed, .ref ht_isKept, .ref ht_kept]))] := hD.sub [0] (by decide) rfl
  have hFc := va_free (wc := [(ht, .inr (5, [.int vt_clerks, .ref ht_drops, .ref ht_tires, .ref ht_now, .ref ht_told, .ref ht_text, .int vt_length, .ref ht_pages, .int vt_acts, .int vt_next, .ref ht_row, .int vt_found, .ref ht_alike, .ref ht_table, .ref ht_keys, .ref ht_own, .long vt_seed, .ref ht_isKept, .ref ht_kept]))]) hD hS hA [0] rfl
  refine va_calli (va_runV (As := [.int a1]) (rest := []) ⟨hx, hb, hml, hown, hts⟩ (k_X6_isClerk l dC dI cI cJ cZ s.heap.size ht ht_drops ht_tires ht_now ht_told ht_text ht_pages ht_row ht_alike ht_table ht_keys ht_own ht_isKept ht_kept a1 vt_clerks vt_length vt_acts vt_next vt_found vt_seed N x1 hx1) (cwV 1 hts gX6_leaves_X6_isClerk rfl rfl rfl hd_X6_isClerk ⟨Nat.le_of_ble_eq_true rfl, Nat.le_of_ble_eq_true rfl⟩) ⟨blind_pc, va_recv hK hPc (ci := 5) (q0 := 0) rfl rfl, pre_pc hPc hK hDc⟩ rfl rfl hl.1 rfl (lv_room (Nat.le_of_ble_eq_true rfl)) dX6_leaves_2 ⟨Nat.zero_le _, Nat.zero_le _⟩) hS (fun q _ h => hFc q h) hFc (fun r u t H1 locs eth hvm hw hB hz1 hk1 hS => ?_)
  obtain ⟨hP1, hK1, hD1⟩ := hB
  rw [eth] at hP1
  subst hw
  obtain ⟨hP, hD⟩ := va_join (wr := [(ht_drops, .inl (cI, 4, .inl vt_drops)), (ht_tires, .inl (cI, 4, .inl vt_tires)), (ht_now, .inl (cI, 13, .inl vt_now)), (ht_told, .inl (cI, 4, .inl vt_told)), (ht_pages, .inl (cI, 4, .inl vt_pages))]) (w1 := [(ht, .inr (5, [.int vt_clerks, .ref ht_drops, .ref ht_tires, .ref ht_now, .ref ht_told, .ref ht_text, .int vt_length, .ref ht_pages, .int vt_acts, .int vt_next, .ref ht_row, .int vt_found, .ref ht_alike, .ref ht_table, .ref ht_keys, .ref ht_own, .long vt_seed, .ref ht_isKept, .ref ht_kept]))]) hP hD [0] [1, 2, 3, 4, 5] rfl rfl (by decide) (by decide) hk1 hFc hP1 hD1
  clear hP1 hK1 hD1 hPc hDc hFc hk1 hz1 hvm eth
  generalize H1 = H at hP hS ⊢
  have hP : va_P (dC, dI) vwCl [(ht_drops, .inl (cI, 4, .inl vt_drops)), (ht_tires, .inl (cI, 4, .inl vt_tires)), (ht_now, .inl (cI, 13, .inl vt_now)), (ht_told, .inl (cI, 4, .inl vt_told)), (ht_pages, .inl (cI, 4, .inl vt_pages)), (ht, .inr (5, [.int vt_clerks, .ref ht_drops, .ref ht_tires, .ref ht_now, .ref ht_told, .ref ht_text, .int vt_length, .ref ht_pages, .int vt_acts, .int vt_next, .ref ht_row, .int vt_found, .ref ht_alike, .ref ht_table, .ref ht_keys, .ref ht_own, .long vt_seed, .ref ht_isKept, .ref ht_kept]))] H := hP
  have hD : va_D A [(ht_drops, .inl (cI, 4, .inl vt_drops)), (ht_tires, .inl (cI, 4, .inl vt_tires)), (ht_now, .inl (cI, 13, .inl vt_now)), (ht_told, .inl (cI, 4, .inl vt_told)), (ht_pages, .inl (cI, 4, .inl vt_pages)), (ht, .inr (5, [.int vt_clerks, .ref ht_drops, .ref ht_tires, .ref ht_now, .ref ht_told, .ref ht_text, .int vt_length, .ref ht_pages, .int vt_acts, .int vt_next, .ref ht_row, .int vt_found, .ref ht_alike, .ref ht_table, .ref ht_keys, .ref ht_own, .long vt_seed, .ref ht_isKept, .ref ht_kept]))] := hD
  refine lv_if_ne (tgt := 10) hx hb dX6_leaves_5 (by decide) (fun c2 => ?_) (fun c2 => ?_)
  · replace hf := dg_f c2 hf
    refine lv_aload_n hx hb dX6_leaves_10 rfl (lv_at hl 0 rfl) ?_
    refine va_get (D := (dC, dI)) (ci := 5) (v := .ref ht_told) (C := RX6) (T := TX6) (N := 19) hx hb hts hinX6 hown hK hP 5 rfl rfl 4 (by decide) hw0 (fun _ h9 => h9) rfl dX6_leaves_11 ?_
    refine lv_iload_n hx hb dX6_leaves_14 rfl (lv_at hl 1 rfl) ?_
    obtain ⟨hi3, hf⟩ := dg_ix hf
    refine va_iald hx hb hK hP 3 0 rfl rfl hi3 dX6_leaves_15 ?_
    refine lv_bipush (v := -9) hx hb dX6_leaves_16 (by decide) ?_
    refine lv_icmp_ne (tgt := 24) hx hb dX6_leaves_18 (by decide) (fun c4 => ?_) (fun c4 => ?_)
    · replace hf := dg_f c4 hf
      refine lv_aload_n hx hb dX6_leaves_24 rfl (lv_at hl 0 rfl) ?_
      refine lv_aload_n hx hb dX6_leaves_25 rfl (lv_at hl 0 rfl) ?_
      refine va_get (D := (dC, dI)) (ci := 5) (v := .ref ht_now) (C := RX6) (T := TX6) (N := 19) hx hb hts hinX6 hown hK hP 5 rfl rfl 3 (by decide) hw1 (fun _ h9 => h9) rfl dX6_leaves_26 ?_
      refine lv_iconst (v := 0) hx hb dX6_leaves_29 (by decide) ?_
      refine va_iald hx hb hK hP 2 0 rfl rfl (vp_in_iff.mpr (by decide)) dX6_leaves_30 ?_
      refine W.eq (g2 := F0 m 31 ls [.int (vt_now 0), .ref ht]) rfl ?_
      refine lv_bipush (v := -9) hx hb dX6_leaves_31 (by decide) ?_
      obtain ⟨x5, hx5, hf⟩ := dg_bind hf
      have hPc : va_P (dC, dI) vwCl [(ht, .inr (5, [.int vt_clerks, .ref ht_drops, .ref ht_tires, .ref ht_now, .ref ht_told, .ref ht_text, .int vt_length, .ref ht_pages, .int vt_acts, .int vt_next, .ref ht_row, .int vt_found, .ref ht_alike, .ref ht_table, .ref ht_keys, .ref ht_own, .long vt_seed, .ref ht_isKept, .ref ht_kept])), (ht_drops, .inl (cI, 4, .inl vt_drops)), (ht_tires, .inl (cI, 4, .inl vt_tires)), (ht_now, .inl (cI, 13, .inl vt_now)), (ht_pages, .inl (cI, 4, .inl vt_pages))] H := hP.sub [5, 0, 1, 2, 4] rfl
      have hDc : va_D A [(ht, .inr (5, [.int vt_clerks, .ref ht_drops, .ref ht_tires, .ref ht_now, .ref ht_told, .ref ht_text, .int vt_length, .ref ht_pages, .int vt_acts, .int vt_next, .ref ht_row, .int vt_found, .ref ht_alike, .ref ht_table, .ref ht_keys, .ref ht_own, .long vt_seed, .ref ht_isKept, .ref ht_kept])), (ht_drops, .inl (cI, 4, .inl vt_drops)), (ht_tires, .inl (cI, 4, .inl vt_tires)), (ht_now, .inl (cI, 13, .inl vt_now)), (ht_pages, .inl (cI, 4, .inl vt_pages))] := hD.sub [5, 0, 1, 2, 4] (by decide) rfl
      have hFc := va_free (wc := [(ht, .inr (5, [.int vt_clerks, .ref ht_drops, .ref ht_tires, .ref ht_now, .ref ht_told, .ref ht_text, .int vt_length, .ref ht_pages, .int vt_acts, .int vt_next, .ref ht_row, .int vt_found, .ref ht_alike, .ref ht_table, .ref ht_keys, .ref ht_own, .long vt_seed, .ref ht_isKept, .ref ht_kept])), (ht_drops, .inl (cI, 4, .inl vt_drops)), (ht_tires, .inl (cI, 4, .inl vt_tires)), (ht_now, .inl (cI, 13, .inl vt_now)), (ht_pages, .inl (cI, 4, .inl vt_pages))]) hD hS hA [5, 0, 1, 2, 4] rfl
      refine va_callv (va_runV (As := [.int (vt_now 0), .int (-9:Int32)]) (rest := []) ⟨hx, hb, hml, hown, hts⟩ (k_X6_layPages l dC dI cI cJ cZ H.size ht ht_drops ht_tires ht_now ht_told ht_text ht_pages ht_row ht_alike ht_table ht_keys ht_own ht_isKept ht_kept (vt_now 0) (-9:Int32) vt_clerks vt_length vt_acts vt_next vt_found vt_seed vt_drops vt_tires vt_now vt_pages N x5 hx5) (cwV 2 hts gX6_leaves_X6_layPages rfl rfl rfl hd_X6_layPages ⟨Nat.le_of_ble_eq_true rfl, Nat.le_of_ble_eq_true rfl⟩) ⟨blind_pc, va_recv hK hPc (ci := 5) (q0 := 0) rfl rfl, pre_pc hPc hK hDc⟩ rfl rfl hl.1 rfl (lv_room (Nat.le_of_ble_eq_true rfl)) dX6_leaves_33 ⟨Nat.zero_le _, Nat.zero_le _⟩) hS (fun q _ h => hFc q h) hFc (fun u t H1 locs eth hvm hw hB hz1 hk1 hS => ?_)
      obtain ⟨hP1, hK1, hD1⟩ := hB
      rw [eth] at hP1
      subst hw
      obtain ⟨hP, hD⟩ := va_join (wr := [(ht_told, .inl (cI, 4, .inl vt_told))]) (w1 := [(ht, .inr (5, [.int vt_clerks, .ref ht_drops, .ref ht_tires, .ref ht_now, .ref ht_told, .ref ht_text, .int vt_length, .ref ht_pages, .int vt_acts, .int vt_next, .ref ht_row, .int vt_found, .ref ht_alike, .ref ht_table, .ref ht_keys, .ref ht_own, .long vt_seed, .ref ht_isKept, .ref ht_kept])), (ht_drops, .inl (cI, 4, .inl vt_drops)), (ht_tires, .inl (cI, 4, .inl vt_tires)), (ht_now, .inl (cI, 13, .inl vt_now)), (ht_pages, .inl (cI, 4, .inl x5))]) hP hD [5, 0, 1, 2, 4] [3] rfl rfl (by decide) (by decide) hk1 hFc hP1 hD1
      clear hP1 hK1 hD1 hPc hDc hFc hk1 hz1 hvm eth
      generalize H1 = H at hP hS ⊢
      have hP : va_P (dC, dI) vwCl [(ht_told, .inl (cI, 4, .inl vt_told)), (ht, .inr (5, [.int vt_clerks, .ref ht_drops, .ref ht_tires, .ref ht_now, .ref ht_told, .ref ht_text, .int vt_length, .ref ht_pages, .int vt_acts, .int vt_next, .ref ht_row, .int vt_found, .ref ht_alike, .ref ht_table, .ref ht_keys, .ref ht_own, .long vt_seed, .ref ht_isKept, .ref ht_kept])), (ht_drops, .inl (cI, 4, .inl vt_drops)), (ht_tires, .inl (cI, 4, .inl vt_tires)), (ht_now, .inl (cI, 13, .inl vt_now)), (ht_pages, .inl (cI, 4, .inl x5))] H := hP
      have hD : va_D A [(ht_told, .inl (cI, 4, .inl vt_told)), (ht, .inr (5, [.int vt_clerks, .ref ht_drops, .ref ht_tires, .ref ht_now, .ref ht_told, .ref ht_text, .int vt_length, .ref ht_pages, .int vt_acts, .int vt_next, .ref ht_row, .int vt_found, .ref ht_alike, .ref ht_table, .ref ht_keys, .ref ht_own, .long vt_seed, .ref ht_isKept, .ref ht_kept])), (ht_drops, .inl (cI, 4, .inl vt_drops)), (ht_tires, .inl (cI, 4, .inl vt_tires)), (ht_now, .inl (cI, 13, .inl vt_now)), (ht_pages, .inl (cI, 4, .inl x5))] := hD
      refine lv_aload_n hx hb dX6_leaves_36 rfl (lv_at hl 0 rfl) ?_
      refine va_get (D := (dC, dI)) (ci := 5) (v := .ref ht_pages) (C := RX6) (T := TX6) (N := 19) hx hb hts hinX6 hown hK hP 1 rfl rfl 7 (by decide) hw2 (fun _ h9 => h9) rfl dX6_leaves_37 ?_
      refine lv_iload_n hx hb dX6_leaves_40 rfl (lv_at hl 1 rfl) ?_
      obtain ⟨hi6, hf⟩ := dg_ix hf
      refine va_iald hx hb hK hP 5 0 rfl rfl hi6 dX6_leaves_41 ?_
      refine lv_istore_n (lv' := [(2, .int (x5 a1.toNatClampNeg)), (0, .ref ht), (1, .int a1)]) hx hb dX6_leaves_42 rfl hl (by decide) rfl (fun ls hl => ?_)
      refine lv_iload_n hx hb dX6_leaves_43 rfl (lv_at hl 0 rfl) ?_
      obtain ⟨x7, hx7, hf⟩ := dg_bind hf
      have hPc : va_P (dC, dI) vwCl [] H := hP.sub [] rfl
      have hDc : va_D A [] := hD.sub [] (by decide) rfl
      have hFc := va_free (wc := []) hD hS hA [] rfl
      refine va_calli (va_runS (As := [.int (x5 a1.toNatClampNeg)]) (rest := []) ⟨hx, hb, hml, hown, hts⟩ (k_X6_wordsOf l dC dI cI cJ cZ H.size (x5 a1.toNatClampNeg) N x7 hx7) (va_cwS 1 hts gX6_leaves_X6_wordsOf rfl rfl rfl hd_X6_wordsOf ⟨Nat.le_of_ble_eq_true rfl, Nat.le_of_ble_eq_true rfl⟩) ⟨blind_pc, pre_pc hPc hK hDc⟩ rfl rfl hl.1 rfl (lv_room (Nat.le_of_ble_eq_true rfl)) dX6_leaves_44 ⟨Nat.zero_le _, Nat.zero_le _⟩) hS (fun q _ h => hFc q h) hFc (fun r u t H1 locs eth hvm hw hB hz1 hk1 hS => ?_)
      obtain ⟨hP1, hK1, hD1⟩ := hB
      rw [eth] at hP1
      subst hw
      obtain ⟨hP, hD⟩ := va_join (wr := [(ht_told, .inl (cI, 4, .inl vt_told)), (ht, .inr (5, [.int vt_clerks, .ref ht_drops, .ref ht_tires, .ref ht_now, .ref ht_told, .ref ht_text, .int vt_length, .ref ht_pages, .int vt_acts, .int vt_next, .ref ht_row, .int vt_found, .ref ht_alike, .ref ht_table, .ref ht_keys, .ref ht_own, .long vt_seed, .ref ht_isKept, .ref ht_kept])), (ht_drops, .inl (cI, 4, .inl vt_drops)), (ht_tires, .inl (cI, 4, .inl vt_tires)), (ht_now, .inl (cI, 13, .inl vt_now)), (ht_pages, .inl (cI, 4, .inl x5))]) (w1 := []) hP hD [] [0, 1, 2, 3, 4, 5] rfl rfl (by decide) (by decide) hk1 hFc hP1 hD1
      clear hP1 hK1 hD1 hPc hDc hFc hk1 hz1 hvm eth
      generalize H1 = H at hP hS ⊢
      have hP : va_P (dC, dI) vwCl [(ht_told, .inl (cI, 4, .inl vt_told)), (ht, .inr (5, [.int vt_clerks, .ref ht_drops, .ref ht_tires, .ref ht_now, .ref ht_told, .ref ht_text, .int vt_length, .ref ht_pages, .int vt_acts, .int vt_next, .ref ht_row, .int vt_found, .ref ht_alike, .ref ht_table, .ref ht_keys, .ref ht_own, .long vt_seed, .ref ht_isKept, .ref ht_kept])), (ht_drops, .inl (cI, 4, .inl vt_drops)), (ht_tires, .inl (cI, 4, .inl vt_tires)), (ht_now, .inl (cI, 13, .inl vt_now)), (ht_pages, .inl (cI, 4, .inl x5))] H := hP
      have hD : va_D A [(ht_told, .inl (cI, 4, .inl vt_told)), (ht, .inr (5, [.int vt_clerks, .ref ht_drops, .ref ht_tires, .ref ht_now, .ref ht_told, .ref ht_text, .int vt_length, .ref ht_pages, .int vt_acts, .int vt_next, .ref ht_row, .int vt_found, .ref ht_alike, .ref ht_table, .ref ht_keys, .ref ht_own, .long vt_seed, .ref ht_isKept, .ref ht_kept])), (ht_drops, .inl (cI, 4, .inl vt_drops)), (ht_tires, .inl (cI, 4, .inl vt_tires)), (ht_now, .inl (cI, 13, .inl vt_now)), (ht_pages, .inl (cI, 4, .inl x5))] := hD
      refine lv_iconst (v := 1) hx hb dX6_leaves_47 (by decide) ?_
      refine lv_iadd hx hb dX6_leaves_48 ?_
      refine lv_iconst (v := 2) hx hb dX6_leaves_49 (by decide) ?_
      refine lv_idiv hx hb dX6_leaves_50 (by decide) ?_
      refine lv_istore_n (lv' := [(3, .int ((x7 + (1:Int32)) / (2:Int32))), (2, .int (x5 a1.toNatClampNeg)), (0, .ref ht), (1, .int a1)]) hx hb dX6_leaves_51 rfl hl (by decide) rfl (fun ls hl => ?_)
      refine lv_iload_n hx hb dX6_leaves_52 rfl (lv_at hl 0 rfl) ?_
      refine lv_if_ne (tgt := 71) hx hb dX6_leaves_53 (by decide) (fun c8 => ?_) (fun c8 => ?_)
      · replace hf := dg_f c8 hf
        refine lv_iconst (v := 0) hx hb dX6_leaves_71 (by decide) ?_
        refine lv_istore (lv' := [(4, .int (0:Int32)), (3, .int ((x7 + (1:Int32)) / (2:Int32))), (2, .int (x5 a1.toNatClampNeg)), (0, .ref ht), (1, .int a1)]) hx hb dX6_leaves_72 hl (by decide) rfl (fun ls hl => ?_)
        refine lv_iconst (v := 0) hx hb dX6_leaves_74 (by decide) ?_
        refine lv_istore (lv' := [(5, .int (0:Int32)), (4, .int (0:Int32)), (3, .int ((x7 + (1:Int32)) / (2:Int32))), (2, .int (x5 a1.toNatClampNeg)), (0, .ref ht), (1, .int a1)]) hx hb dX6_leaves_75 hl (by decide) rfl (fun ls hl => ?_)
        have ex77 : ∀ (z4_77 : Int32) (z5_77 : Int32) (H : Heap) (locs : List Loc) (ls : Array Slot), va_P (dC, dI) vwCl [(ht_told, .inl (cI, 4, .inl vt_told)), (ht, .inr (5, [.int vt_clerks, .ref ht_drops, .ref ht_tires, .ref ht_now, .ref ht_told, .ref ht_text, .int vt_length, .ref ht_pages, .int vt_acts, .int vt_next, .ref ht_row, .int vt_found, .ref ht_alike, .ref ht_table, .ref ht_keys, .ref ht_own, .long vt_seed, .ref ht_isKept, .ref ht_kept])), (ht_drops, .inl (cI, 4, .inl vt_drops)), (ht_tires, .inl (cI, 4, .inl vt_tires)), (ht_now, .inl (cI, 13, .inl vt_now)), (ht_pages, .inl (cI, 4, .inl x5))] H → va_D A [(ht_told, .inl (cI, 4, .inl vt_told)), (ht, .inr (5, [.int vt_clerks, .ref ht_drops, .ref ht_tires, .ref ht_now, .ref ht_told, .ref ht_text, .int vt_length, .ref ht_pages, .int vt_acts, .int vt_next, .ref ht_row, .int vt_found, .ref ht_alike, .ref ht_table, .ref ht_keys, .ref ht_own, .long vt_seed, .ref ht_isKept, .ref ht_kept])), (ht_drops, .inl (cI, 4, .inl vt_drops)), (ht_tires, .inl (cI, 4, .inl vt_tires)), (ht_now, .inl (cI, 13, .inl vt_now)), (ht_pages, .inl (cI, 4, .inl x5))] → va_S A s.heap H locs → lv_has ls 10 [(5, .int z5_77), (4, .int z4_77), (3, .int ((x7 + (1:Int32)) / (2:Int32))), (2, .int (x5 a1.toNatClampNeg)), (0, .ref ht), (1, .int a1)] → (some (z4_77, x5)) = some R → W p l e (rm_X6_leaves) s m ([.ref ht, .int a1] : List Value).toArray below meth c H locs 0 0 (MQ below (q_X6_leaves dC dI cI cJ cZ ht ht_drops ht_tires ht_now ht_told ht_text ht_pages ht_row ht_alike ht_table ht_keys ht_own ht_isKept ht_kept vt_clerks vt_length vt_acts vt_next vt_found vt_seed vt_drops vt_tires vt_now vt_told R A) ([.ref ht, .int a1] : List Value).toArray s 0 0 A) (F0 m 233 ls []) := by
          intro z4_77 z5_77 H locs ls hP hD hS hl hf
          refine lv_iload hx hb dX6_leaves_233 (lv_at hl 1 rfl) ?_
          have he := Option.some.inj hf
          have hP9 := (hP.sub (ws' := [(ht, .inr (5, [.int vt_clerks, .ref ht_drops, .ref ht_tires, .ref ht_now, .ref ht_told, .ref ht_text, .int vt_length, .ref ht_pages, .int vt_acts, .int vt_next, .ref ht_row, .int vt_found, .ref ht_alike, .ref ht_table, .ref ht_keys, .ref ht_own, .long vt_seed, .ref ht_isKept, .ref ht_kept])), (ht_drops, .inl (cI, 4, .inl vt_drops)), (ht_tires, .inl (cI, 4, .inl vt_tires)), (ht_now, .inl (cI, 13, .inl vt_now)), (ht_told, .inl (cI, 4, .inl vt_told)), (ht_pages, .inl (cI, 4, .inl x5))]) [1, 2, 3, 4, 0, 5] rfl)
          have hD9 := (hD.sub (ws' := [(ht, .inr (5, [.int vt_clerks, .ref ht_drops, .ref ht_tires, .ref ht_now, .ref ht_told, .ref ht_text, .int vt_length, .ref ht_pages, .int vt_acts, .int vt_next, .ref ht_row, .int vt_found, .ref ht_alike, .ref ht_table, .ref ht_keys, .ref ht_own, .long vt_seed, .ref ht_isKept, .ref ht_kept])), (ht_drops, .inl (cI, 4, .inl vt_drops)), (ht_tires, .inl (cI, 4, .inl vt_tires)), (ht_now, .inl (cI, 13, .inl vt_now)), (ht_told, .inl (cI, 4, .inl vt_told)), (ht_pages, .inl (cI, 4, .inl x5))]) [1, 2, 3, 4, 0, 5] (by decide) rfl)
          exact W.iret (v := z4_77) hx hb hr (fun t eth hW => ⟨⟨z4_77, x5, rfl, ⟨(congrArg Prod.fst he).symm, (congrArg Prod.snd he).symm⟩, by rw [eth]; exact hP9, va_K.moved hW.alike hK, hD9⟩, hS.F eth⟩) hS.2.2 dX6_leaves_235
        have lp77 : ∀ (n77 : Nat) (y4_77 : Int32) (y5_77 : Int32) (H : Heap) (locs : List Loc) (ls : Array Slot), va_P (dC, dI) vwCl [(ht_told, .inl (cI, 4, .inl vt_told)), (ht, .inr (5, [.int vt_clerks, .ref ht_drops, .ref ht_tires, .ref ht_now, .ref ht_told, .ref ht_text, .int vt_length, .ref ht_pages, .int vt_acts, .int vt_next, .ref ht_row, .int vt_found, .ref ht_alike, .ref ht_table, .ref ht_keys, .ref ht_own, .long vt_seed, .ref ht_isKept, .ref ht_kept])), (ht_drops, .inl (cI, 4, .inl vt_drops)), (ht_tires, .inl (cI, 4, .inl vt_tires)), (ht_now, .inl (cI, 13, .inl vt_now)), (ht_pages, .inl (cI, 4, .inl x5))] H → va_D A [(ht_told, .inl (cI, 4, .inl vt_told)), (ht, .inr (5, [.int vt_clerks, .ref ht_drops, .ref ht_tires, .ref ht_now, .ref ht_told, .ref ht_text, .int vt_length, .ref ht_pages, .int vt_acts, .int vt_next, .ref ht_row, .int vt_found, .ref ht_alike, .ref ht_table, .ref ht_keys, .ref ht_own, .long vt_seed, .ref ht_isKept, .ref ht_kept])), (ht_drops, .inl (cI, 4, .inl vt_drops)), (ht_tires, .inl (cI, 4, .inl vt_tires)), (ht_now, .inl (cI, 13, .inl vt_now)), (ht_pages, .inl (cI, 4, .inl x5))] → va_S A s.heap H locs → lv_has ls 10 [(5, .int y5_77), (4, .int y4_77), (3, .int ((x7 + (1:Int32)) / (2:Int32))), (2, .int (x5 a1.toNatClampNeg)), (0, .ref ht), (1, .int a1)] → f_X6_leaves_77 N a1 vt_told x5 x7 (fun z4_77 z5_77 => some (z4_77, x5)) n77 y4_77 y5_77 = some R → W p l e (rm_X6_leaves) s m ([.ref ht, .int a1] : List Value).toArray below meth c H locs 0 0 (MQ below (q_X6_leaves dC dI cI cJ cZ ht ht_drops ht_tires ht_now ht_told ht_text ht_pages ht_row ht_alike ht_table ht_keys ht_own ht_isKept ht_kept vt_clerks vt_length vt_acts vt_next vt_found vt_seed vt_drops vt_tires vt_now vt_told R A) ([.ref ht, .int a1] : List Value).toArray s 0 0 A) (F0 m 77 ls []) := by
          intro n77
          induction n77 with
          | zero => intro y4_77 y5_77 H locs ls hP hD hS hl hf; rw [f_X6_leaves_77] at hf; cases hf
          | succ n77 ih77 =>
            intro y4_77 y5_77 H locs ls hP hD hS hl hf
            rw [f_X6_leaves_77] at hf
            refine lv_iload hx hb dX6_leaves_77 (lv_at hl 0 rfl) ?_
            refine lv_bipush (v := 27) hx hb dX6_leaves_79 (by decide) ?_
            refine lv_icmp_ge (tgt := 233) hx hb dX6_leaves_81 (by decide) (fun c9 => ?_) (fun c9 => ?_)
            · replace hf := dg_t c9 hf
              exact ex77 y4_77 y5_77 _ _ _ hP hD hS (lv_sub hl [0, 1, 2, 3, 4, 5] rfl) hf
            · replace hf := dg_f c9 hf
              refine lv_iconst (v := 0) hx hb dX6_leaves_84 (by decide) ?_
              refine lv_istore (lv' := [(6, .int (0:Int32)), (5, .int y5_77), (4, .int y4_77), (3, .int ((x7 + (1:Int32)) / (2:Int32))), (2, .int (x5 a1.toNatClampNeg)), (0, .ref ht), (1, .int a1)]) hx hb dX6_leaves_85 hl (by decide) rfl (fun ls hl => ?_)
              refine lv_iconst (v := 0) hx hb dX6_leaves_87 (by decide) ?_
              refine lv_istore (lv' := [(7, .int (0:Int32)), (6, .int (0:Int32)), (5, .int y5_77), (4, .int y4_77), (3, .int ((x7 + (1:Int32)) / (2:Int32))), (2, .int (x5 a1.toNatClampNeg)), (0, .ref ht), (1, .int a1)]) hx hb dX6_leaves_88 hl (by decide) rfl (fun ls hl => ?_)
              refine lv_iconst (v := 0) hx hb dX6_leaves_90 (by decide) ?_
              refine lv_istore (lv' := [(8, .int (0:Int32)), (7, .int (0:Int32)), (6, .int (0:Int32)), (5, .int y5_77), (4, .int y4_77), (3, .int ((x7 + (1:Int32)) / (2:Int32))), (2, .int (x5 a1.toNatClampNeg)), (0, .ref ht), (1, .int a1)]) hx hb dX6_leaves_91 hl (by decide) rfl (fun ls hl => ?_)
              have ex93 : ∀ (z6_93 : Int32) (z7_93 : Int32) (z8_93 : Int32) (H : Heap) (locs : List Loc) (ls : Array Slot), va_P (dC, dI) vwCl [(ht_told, .inl (cI, 4, .inl vt_told)), (ht, .inr (5, [.int vt_clerks, .ref ht_drops, .ref ht_tires, .ref ht_now, .ref ht_told, .ref ht_text, .int vt_length, .ref ht_pages, .int vt_acts, .int vt_next, .ref ht_row, .int vt_found, .ref ht_alike, .ref ht_table, .ref ht_keys, .ref ht_own, .long vt_seed, .ref ht_isKept, .ref ht_kept])), (ht_drops, .inl (cI, 4, .inl vt_drops)), (ht_tires, .inl (cI, 4, .inl vt_tires)), (ht_now, .inl (cI, 13, .inl vt_now)), (ht_pages, .inl (cI, 4, .inl x5))] H → va_D A [(ht_told, .inl (cI, 4, .inl vt_told)), (ht, .inr (5, [.int vt_clerks, .ref ht_drops, .ref ht_tires, .ref ht_now, .ref ht_told, .ref ht_text, .int vt_length, .ref ht_pages, .int vt_acts, .int vt_next, .ref ht_row, .int vt_found, .ref ht_alike, .ref ht_table, .ref ht_keys, .ref ht_own, .long vt_seed, .ref ht_isKept, .ref ht_kept])), (ht_drops, .inl (cI, 4, .inl vt_drops)), (ht_tires, .inl (cI, 4, .inl vt_tires)), (ht_now, .inl (cI, 13, .inl vt_now)), (ht_pages, .inl (cI, 4, .inl x5))] → va_S A s.heap H locs → lv_has ls 10 [(8, .int z8_93), (7, .int z7_93), (6, .int z6_93), (5, .int y5_77), (4, .int y4_77), (3, .int ((x7 + (1:Int32)) / (2:Int32))), (2, .int (x5 a1.toNatClampNeg)), (0, .ref ht), (1, .int a1)] → (if ((x7 + (1:Int32)) / (2:Int32)) = (3:Int32) then if z6_93 = (((1:Int32) <<< (((x7 + (1:Int32)) / (2:Int32)) &&& 31)) - (1:Int32)) then gI a1 4 (if z7_93 = (vt_told a1.toNatClampNeg) then f_X6_leaves_77 N a1 vt_told x5 x7 (fun z4_77 z5_77 => some (z4_77, x5)) n77 (y4_77 + (1:Int32)) (y5_77 + (1:Int32)) else f_X6_leaves_77 N a1 vt_told x5 x7 (fun z4_77 z5_77 => some (z4_77, x5)) n77 (y4_77 + (0:Int32)) (y5_77 + (1:Int32))) else f_X6_leaves_77 N a1 vt_told x5 x7 (fun z4_77 z5_77 => some (z4_77, x5)) n77 (y4_77 + (0:Int32)) (y5_77 + (1:Int32)) else if ((x7 + (1:Int32)) / (2:Int32)) = (2:Int32) then if (9:Int32) ≤ y5_77 then f_X6_leaves_77 N a1 vt_told x5 x7 (fun z4_77 z5_77 => some (z4_77, x5)) n77 (y4_77 + (0:Int32)) (y5_77 + (1:Int32)) else if z6_93 = (((1:Int32) <<< (((x7 + (1:Int32)) / (2:Int32)) &&& 31)) - (1:Int32)) then gI a1 4 (if z7_93 = (vt_told a1.toNatClampNeg) then f_X6_leaves_77 N a1 vt_told x5 x7 (fun z4_77 z5_77 => some (z4_77, x5)) n77 (y4_77 + (1:Int32)) (y5_77 + (1:Int32)) else f_X6_leaves_77 N a1 vt_told x5 x7 (fun z4_77 z5_77 => some (z4_77, x5)) n77 (y4_77 + (0:Int32)) (y5_77 + (1:Int32))) else f_X6_leaves_77 N a1 vt_told x5 x7 (fun z4_77 z5_77 => some (z4_77, x5)) n77 (y4_77 + (0:Int32)) (y5_77 + (1:Int32)) else if (3:Int32) ≤ y5_77 then f_X6_leaves_77 N a1 vt_told x5 x7 (fun z4_77 z5_77 => some (z4_77, x5)) n77 (y4_77 + (0:Int32)) (y5_77 + (1:Int32)) else if z6_93 = (((1:Int32) <<< (((x7 + (1:Int32)) / (2:Int32)) &&& 31)) - (1:Int32)) then gI a1 4 (if z7_93 = (vt_told a1.toNatClampNeg) then f_X6_leaves_77 N a1 vt_told x5 x7 (fun z4_77 z5_77 => some (z4_77, x5)) n77 (y4_77 + (1:Int32)) (y5_77 + (1:Int32)) else f_X6_leaves_77 N a1 vt_told x5 x7 (fun z4_77 z5_77 => some (z4_77, x5)) n77 (y4_77 + (0:Int32)) (y5_77 + (1:Int32))) else f_X6_leaves_77 N a1 vt_told x5 x7 (fun z4_77 z5_77 => some (z4_77, x5)) n77 (y4_77 + (0:Int32)) (y5_77 + (1:Int32))) = some R → W p l e (rm_X6_leaves) s m ([.ref ht, .int a1] : List Value).toArray below meth c H locs 0 0 (MQ below (q_X6_leaves dC dI cI cJ cZ ht ht_drops ht_tires ht_now ht_told ht_text ht_pages ht_row ht_alike ht_table ht_keys ht_own ht_isKept ht_kept vt_clerks vt_length vt_acts vt_next vt_found vt_seed vt_drops vt_tires vt_now vt_told R A) ([.ref ht, .int a1] : List Value).toArray s 0 0 A) (F0 m 163 ls []) := by
                intro z6_93 z7_93 z8_93 H locs ls hP hD hS hl hf
                refine lv_iload_n hx hb dX6_leaves_163 rfl (lv_at hl 5 rfl) ?_
                refine lv_iconst (v := 3) hx hb dX6_leaves_164 (by decide) ?_
                refine lv_icmp_eq (tgt := 184) hx hb dX6_leaves_165 (by decide) (fun c10 => ?_) (fun c10 => ?_)
                · replace hf := dg_t c10 hf
                  refine lv_iconst (v := 1) hx hb dX6_leaves_184 (by decide) ?_
                  refine lv_goto (tgt := 189) hx hb dX6_leaves_185 (by decide) ?_
                  refine lv_istore (lv' := [(8, .int (1:Int32)), (7, .int z7_93), (6, .int z6_93), (5, .int y5_77), (4, .int y4_77), (3, .int ((x7 + (1:Int32)) / (2:Int32))), (2, .int (x5 a1.toNatClampNeg)), (0, .ref ht), (1, .int a1)]) hx hb dX6_leaves_189 hl (by decide) rfl (fun ls hl => ?_)
                  refine lv_iload hx hb dX6_leaves_191 (lv_at hl 4 rfl) ?_
                  refine lv_iload hx hb dX6_leaves_193 (lv_at hl 0 rfl) ?_
                  refine lv_if_eq (tgt := 223) hx hb dX6_leaves_195 (by decide) (fun c11 => absurd c11 (by decide)) (fun c11 => ?_)
                  refine lv_iload hx hb dX6_leaves_198 (lv_at hl 2 rfl) ?_
                  refine lv_iconst (v := 1) hx hb dX6_leaves_200 (by decide) ?_
                  refine lv_iload_n hx hb dX6_leaves_201 rfl (lv_at hl 5 rfl) ?_
                  refine lv_ishl hx hb dX6_leaves_202 ?_
                  refine lv_iconst (v := 1) hx hb dX6_leaves_203 (by decide) ?_
                  refine lv_isub hx hb dX6_leaves_204 ?_
                  refine lv_icmp_ne (tgt := 223) hx hb dX6_leaves_205 (by decide) (fun c12 => ?_) (fun c12 => ?_)
                  · replace hf := dg_f c12 hf
                    refine lv_iconst (v := 0) hx hb dX6_leaves_223 (by decide) ?_
                    refine lv_iadd hx hb dX6_leaves_224 ?_
                    refine lv_istore (lv' := [(4, .int (y4_77 + (0:Int32))), (8, .int (1:Int32)), (7, .int z7_93), (6, .int z6_93), (5, .int y5_77), (3, .int ((x7 + (1:Int32)) / (2:Int32))), (2, .int (x5 a1.toNatClampNeg)), (0, .ref ht), (1, .int a1)]) hx hb dX6_leaves_225 hl (by decide) rfl (fun ls hl => ?_)
                    refine lv_iinc (v := (y5_77 + (1:Int32))) (lv' := [(5, .int (y5_77 + (1:Int32))), (4, .int (y4_77 + (0:Int32))), (8, .int (1:Int32)), (7, .int z7_93), (6, .int z6_93), (3, .int ((x7 + (1:Int32)) / (2:Int32))), (2, .int (x5 a1.toNatClampNeg)), (0, .ref ht), (1, .int a1)]) hx hb dX6_leaves_227 hl (k := 4) rfl (by first | rfl | decide) (by decide) rfl (fun ls hl => ?_)
                    refine lv_goto (tgt := 77) hx hb dX6_leaves_230 (by decide) ?_
                    exact ih77 (y4_77 + (0:Int32)) (y5_77 + (1:Int32)) _ _ _ hP hD hS (lv_sub hl [0, 1, 5, 6, 7, 8] rfl) hf
                  · replace hf := dg_t c12 hf
                    refine lv_iload hx hb dX6_leaves_208 (lv_at hl 1 rfl) ?_
                    refine lv_aload_n hx hb dX6_leaves_210 rfl (lv_at hl 7 rfl) ?_
                    refine va_get (D := (dC, dI)) (ci := 5) (v := .ref ht_told) (C := RX6) (T := TX6) (N := 19) hx hb hts hinX6 hown hK hP 1 rfl rfl 4 (by decide) hw0 (fun _ h9 => h9) rfl dX6_leaves_211 ?_
                    refine lv_iload_n hx hb dX6_leaves_214 rfl (lv_at hl 8 rfl) ?_
                    obtain ⟨hi13, hf⟩ := dg_ix hf
                    refine va_iald hx hb hK hP 0 0 rfl rfl hi13 dX6_leaves_215 ?_
                    refine lv_icmp_ne (tgt := 223) hx hb dX6_leaves_216 (by decide) (fun c14 => ?_) (fun c14 => ?_)
                    · replace hf := dg_f c14 hf
                      refine lv_iconst (v := 0) hx hb dX6_leaves_223 (by decide) ?_
                      refine lv_iadd hx hb dX6_leaves_224 ?_
                      refine lv_istore (lv' := [(4, .int (y4_77 + (0:Int32))), (8, .int (1:Int32)), (7, .int z7_93), (6, .int z6_93), (5, .int y5_77), (3, .int ((x7 + (1:Int32)) / (2:Int32))), (2, .int (x5 a1.toNatClampNeg)), (0, .ref ht), (1, .int a1)]) hx hb dX6_leaves_225 hl (by decide) rfl (fun ls hl => ?_)
                      refine lv_iinc (v := (y5_77 + (1:Int32))) (lv' := [(5, .int (y5_77 + (1:Int32))), (4, .int (y4_77 + (0:Int32))), (8, .int (1:Int32)), (7, .int z7_93), (6, .int z6_93), (3, .int ((x7 + (1:Int32)) / (2:Int32))), (2, .int (x5 a1.toNatClampNeg)), (0, .ref ht), (1, .int a1)]) hx hb dX6_leaves_227 hl (k := 4) rfl (by first | rfl | decide) (by decide) rfl (fun ls hl => ?_)
                      refine lv_goto (tgt := 77) hx hb dX6_leaves_230 (by decide) ?_
                      exact ih77 (y4_77 + (0:Int32)) (y5_77 + (1:Int32)) _ _ _ hP hD hS (lv_sub hl [0, 1, 5, 6, 7, 8] rfl) hf
                    · replace hf := dg_t c14 hf
                      refine lv_iconst (v := 1) hx hb dX6_leaves_219 (by decide) ?_
                      refine lv_goto (tgt := 224) hx hb dX6_leaves_220 (by decide) ?_
                      refine lv_iadd hx hb dX6_leaves_224 ?_
                      refine lv_istore (lv' := [(4, .int (y4_77 + (1:Int32))), (8, .int (1:Int32)), (7, .int z7_93), (6, .int z6_93), (5, .int y5_77), (3, .int ((x7 + (1:Int32)) / (2:Int32))), (2, .int (x5 a1.toNatClampNeg)), (0, .ref ht), (1, .int a1)]) hx hb dX6_leaves_225 hl (by decide) rfl (fun ls hl => ?_)
                      refine lv_iinc (v := (y5_77 + (1:Int32))) (lv' := [(5, .int (y5_77 + (1:Int32))), (4, .int (y4_77 + (1:Int32))), (8, .int (1:Int32)), (7, .int z7_93), (6, .int z6_93), (3, .int ((x7 + (1:Int32)) / (2:Int32))), (2, .int (x5 a1.toNatClampNeg)), (0, .ref ht), (1, .int a1)]) hx hb dX6_leaves_227 hl (k := 4) rfl (by first | rfl | decide) (by decide) rfl (fun ls hl => ?_)
                      refine lv_goto (tgt := 77) hx hb dX6_leaves_230 (by decide) ?_
                      exact ih77 (y4_77 + (1:Int32)) (y5_77 + (1:Int32)) _ _ _ hP hD hS (lv_sub hl [0, 1, 5, 6, 7, 8] rfl) hf
                · replace hf := dg_f c10 hf
                  refine lv_iload hx hb dX6_leaves_168 (lv_at hl 3 rfl) ?_
                  refine lv_iload_n hx hb dX6_leaves_170 rfl (lv_at hl 5 rfl) ?_
                  refine lv_iconst (v := 2) hx hb dX6_leaves_171 (by decide) ?_
                  refine lv_icmp_ne (tgt := 180) hx hb dX6_leaves_172 (by decide) (fun c15 => ?_) (fun c15 => ?_)
                  · replace hf := dg_f c15 hf
                    refine lv_iconst (v := 3) hx hb dX6_leaves_180 (by decide) ?_
                    refine lv_icmp_ge (tgt := 188) hx hb dX6_leaves_181 (by decide) (fun c16 => ?_) (fun c16 => ?_)
                    · replace hf := dg_t c16 hf
                      refine lv_iconst (v := 0) hx hb dX6_leaves_188 (by decide) ?_
                      refine lv_istore (lv' := [(8, .int (0:Int32)), (7, .int z7_93), (6, .int z6_93), (5, .int y5_77), (4, .int y4_77), (3, .int ((x7 + (1:Int32)) / (2:Int32))), (2, .int (x5 a1.toNatClampNeg)), (0, .ref ht), (1, .int a1)]) hx hb dX6_leaves_189 hl (by decide) rfl (fun ls hl => ?_)
                      refine lv_iload hx hb dX6_leaves_191 (lv_at hl 4 rfl) ?_
                      refine lv_iload hx hb dX6_leaves_193 (lv_at hl 0 rfl) ?_
                      refine lv_if_eq (tgt := 223) hx hb dX6_leaves_195 (by decide) (fun c17 => ?_) (fun c17 => absurd (by decide) c17)
                      refine lv_iconst (v := 0) hx hb dX6_leaves_223 (by decide) ?_
                      refine lv_iadd hx hb dX6_leaves_224 ?_
                      refine lv_istore (lv' := [(4, .int (y4_77 + (0:Int32))), (8, .int (0:Int32)), (7, .int z7_93), (6, .int z6_93), (5, .int y5_77), (3, .int ((x7 + (1:Int32)) / (2:Int32))), (2, .int (x5 a1.toNatClampNeg)), (0, .ref ht), (1, .int a1)]) hx hb dX6_leaves_225 hl (by decide) rfl (fun ls hl => ?_)
                      refine lv_iinc (v := (y5_77 + (1:Int32))) (lv' := [(5, .int (y5_77 + (1:Int32))), (4, .int (y4_77 + (0:Int32))), (8, .int (0:Int32)), (7, .int z7_93), (6, .int z6_93), (3, .int ((x7 + (1:Int32)) / (2:Int32))), (2, .int (x5 a1.toNatClampNeg)), (0, .ref ht), (1, .int a1)]) hx hb dX6_leaves_227 hl (k := 4) rfl (by first | rfl | decide) (by decide) rfl (fun ls hl => ?_)
                      refine lv_goto (tgt := 77) hx hb dX6_leaves_230 (by decide) ?_
                      exact ih77 (y4_77 + (0:Int32)) (y5_77 + (1:Int32)) _ _ _ hP hD hS (lv_sub hl [0, 1, 5, 6, 7, 8] rfl) hf
                    · replace hf := dg_f c16 hf
                      refine lv_iconst (v := 1) hx hb dX6_leaves_184 (by decide) ?_
                      refine lv_goto (tgt := 189) hx hb dX6_leaves_185 (by decide) ?_
                      refine lv_istore (lv' := [(8, .int (1:Int32)), (7, .int z7_93), (6, .int z6_93), (5, .int y5_77), (4, .int y4_77), (3, .int ((x7 + (1:Int32)) / (2:Int32))), (2, .int (x5 a1.toNatClampNeg)), (0, .ref ht), (1, .int a1)]) hx hb dX6_leaves_189 hl (by decide) rfl (fun ls hl => ?_)
                      refine lv_iload hx hb dX6_leaves_191 (lv_at hl 4 rfl) ?_
                      refine lv_iload hx hb dX6_leaves_193 (lv_at hl 0 rfl) ?_
                      refine lv_if_eq (tgt := 223) hx hb dX6_leaves_195 (by decide) (fun c18 => absurd c18 (by decide)) (fun c18 => ?_)
                      refine lv_iload hx hb dX6_leaves_198 (lv_at hl 2 rfl) ?_
                      refine lv_iconst (v := 1) hx hb dX6_leaves_200 (by decide) ?_
                      refine lv_iload_n hx hb dX6_leaves_201 rfl (lv_at hl 5 rfl) ?_
                      refine lv_ishl hx hb dX6_leaves_202 ?_
                      refine lv_iconst (v := 1) hx hb dX6_leaves_203 (by decide) ?_
                      refine lv_isub hx hb dX6_leaves_204 ?_
                      refine lv_icmp_ne (tgt := 223) hx hb dX6_leaves_205 (by decide) (fun c19 => ?_) (fun c19 => ?_)
                      · replace hf := dg_f c19 hf
                        refine lv_iconst (v := 0) hx hb dX6_leaves_223 (by decide) ?_
                        refine lv_iadd hx hb dX6_leaves_224 ?_
                        refine lv_istore (lv' := [(4, .int (y4_77 + (0:Int32))), (8, .int (1:Int32)), (7, .int z7_93), (6, .int z6_93), (5, .int y5_77), (3, .int ((x7 + (1:Int32)) / (2:Int32))), (2, .int (x5 a1.toNatClampNeg)), (0, .ref ht), (1, .int a1)]) hx hb dX6_leaves_225 hl (by decide) rfl (fun ls hl => ?_)
                        refine lv_iinc (v := (y5_77 + (1:Int32))) (lv' := [(5, .int (y5_77 + (1:Int32))), (4, .int (y4_77 + (0:Int32))), (8, .int (1:Int32)), (7, .int z7_93), (6, .int z6_93), (3, .int ((x7 + (1:Int32)) / (2:Int32))), (2, .int (x5 a1.toNatClampNeg)), (0, .ref ht), (1, .int a1)]) hx hb dX6_leaves_227 hl (k := 4) rfl (by first | rfl | decide) (by decide) rfl (fun ls hl => ?_)
                        refine lv_goto (tgt := 77) hx hb dX6_leaves_230 (by decide) ?_
                        exact ih77 (y4_77 + (0:Int32)) (y5_77 + (1:Int32)) _ _ _ hP hD hS (lv_sub hl [0, 1, 5, 6, 7, 8] rfl) hf
                      · replace hf := dg_t c19 hf
                        refine lv_iload hx hb dX6_leaves_208 (lv_at hl 1 rfl) ?_
                        refine lv_aload_n hx hb dX6_leaves_210 rfl (lv_at hl 7 rfl) ?_
                        refine va_get (D := (dC, dI)) (ci := 5) (v := .ref ht_told) (C := RX6) (T := TX6) (N := 19) hx hb hts hinX6 hown hK hP 1 rfl rfl 4 (by decide) hw0 (fun _ h9 => h9) rfl dX6_leaves_211 ?_
                        refine lv_iload_n hx hb dX6_leaves_214 rfl (lv_at hl 8 rfl) ?_
                        obtain ⟨hi20, hf⟩ := dg_ix hf
                        refine va_iald hx hb hK hP 0 0 rfl rfl hi20 dX6_leaves_215 ?_
                        refine lv_icmp_ne (tgt := 223) hx hb dX6_leaves_216 (by decide) (fun c21 => ?_) (fun c21 => ?_)
                        · replace hf := dg_f c21 hf
                          refine lv_iconst (v := 0) hx hb dX6_leaves_223 (by decide) ?_
                          refine lv_iadd hx hb dX6_leaves_224 ?_
                          refine lv_istore (lv' := [(4, .int (y4_77 + (0:Int32))), (8, .int (1:Int32)), (7, .int z7_93), (6, .int z6_93), (5, .int y5_77), (3, .int ((x7 + (1:Int32)) / (2:Int32))), (2, .int (x5 a1.toNatClampNeg)), (0, .ref ht), (1, .int a1)]) hx hb dX6_leaves_225 hl (by decide) rfl (fun ls hl => ?_)
                          refine lv_iinc (v := (y5_77 + (1:Int32))) (lv' := [(5, .int (y5_77 + (1:Int32))), (4, .int (y4_77 + (0:Int32))), (8, .int (1:Int32)), (7, .int z7_93), (6, .int z6_93), (3, .int ((x7 + (1:Int32)) / (2:Int32))), (2, .int (x5 a1.toNatClampNeg)), (0, .ref ht), (1, .int a1)]) hx hb dX6_leaves_227 hl (k := 4) rfl (by first | rfl | decide) (by decide) rfl (fun ls hl => ?_)
                          refine lv_goto (tgt := 77) hx hb dX6_leaves_230 (by decide) ?_
                          exact ih77 (y4_77 + (0:Int32)) (y5_77 + (1:Int32)) _ _ _ hP hD hS (lv_sub hl [0, 1, 5, 6, 7, 8] rfl) hf
                        · replace hf := dg_t c21 hf
                          refine lv_iconst (v := 1) hx hb dX6_leaves_219 (by decide) ?_
                          refine lv_goto (tgt := 224) hx hb dX6_leaves_220 (by decide) ?_
                          refine lv_iadd hx hb dX6_leaves_224 ?_
                          refine lv_istore (lv' := [(4, .int (y4_77 + (1:Int32))), (8, .int (1:Int32)), (7, .int z7_93), (6, .int z6_93), (5, .int y5_77), (3, .int ((x7 + (1:Int32)) / (2:Int32))), (2, .int (x5 a1.toNatClampNeg)), (0, .ref ht), (1, .int a1)]) hx hb dX6_leaves_225 hl (by decide) rfl (fun ls hl => ?_)
                          refine lv_iinc (v := (y5_77 + (1:Int32))) (lv' := [(5, .int (y5_77 + (1:Int32))), (4, .int (y4_77 + (1:Int32))), (8, .int (1:Int32)), (7, .int z7_93), (6, .int z6_93), (3, .int ((x7 + (1:Int32)) / (2:Int32))), (2, .int (x5 a1.toNatClampNeg)), (0, .ref ht), (1, .int a1)]) hx hb dX6_leaves_227 hl (k := 4) rfl (by first | rfl | decide) (by decide) rfl (fun ls hl => ?_)
                          refine lv_goto (tgt := 77) hx hb dX6_leaves_230 (by decide) ?_
                          exact ih77 (y4_77 + (1:Int32)) (y5_77 + (1:Int32)) _ _ _ hP hD hS (lv_sub hl [0, 1, 5, 6, 7, 8] rfl) hf
                  · replace hf := dg_t c15 hf
                    refine lv_bipush (v := 9) hx hb dX6_leaves_175 (by decide) ?_
                    refine lv_goto (tgt := 181) hx hb dX6_leaves_177 (by decide) ?_
                    refine lv_icmp_ge (tgt := 188) hx hb dX6_leaves_181 (by decide) (fun c22 => ?_) (fun c22 => ?_)
                    · replace hf := dg_t c22 hf
                      refine lv_iconst (v := 0) hx hb dX6_leaves_188 (by decide) ?_
                      refine lv_istore (lv' := [(8, .int (0:Int32)), (7, .int z7_93), (6, .int z6_93), (5, .int y5_77), (4, .int y4_77), (3, .int ((x7 + (1:Int32)) / (2:Int32))), (2, .int (x5 a1.toNatClampNeg)), (0, .ref ht), (1, .int a1)]) hx hb dX6_leaves_189 hl (by decide) rfl (fun ls hl => ?_)
                      refine lv_iload hx hb dX6_leaves_191 (lv_at hl 4 rfl) ?_
                      refine lv_iload hx hb dX6_leaves_193 (lv_at hl 0 rfl) ?_
                      refine lv_if_eq (tgt := 223) hx hb dX6_leaves_195 (by decide) (fun c23 => ?_) (fun c23 => absurd (by decide) c23)
                      refine lv_iconst (v := 0) hx hb dX6_leaves_223 (by decide) ?_
                      refine lv_iadd hx hb dX6_leaves_224 ?_
                      refine lv_istore (lv' := [(4, .int (y4_77 + (0:Int32))), (8, .int (0:Int32)), (7, .int z7_93), (6, .int z6_93), (5, .int y5_77), (3, .int ((x7 + (1:Int32)) / (2:Int32))), (2, .int (x5 a1.toNatClampNeg)), (0, .ref ht), (1, .int a1)]) hx hb dX6_leaves_225 hl (by decide) rfl (fun ls hl => ?_)
                      refine lv_iinc (v := (y5_77 + (1:Int32))) (lv' := [(5, .int (y5_77 + (1:Int32))), (4, .int (y4_77 + (0:Int32))), (8, .int (0:Int32)), (7, .int z7_93), (6, .int z6_93), (3, .int ((x7 + (1:Int32)) / (2:Int32))), (2, .int (x5 a1.toNatClampNeg)), (0, .ref ht), (1, .int a1)]) hx hb dX6_leaves_227 hl (k := 4) rfl (by first | rfl | decide) (by decide) rfl (fun ls hl => ?_)
                      refine lv_goto (tgt := 77) hx hb dX6_leaves_230 (by decide) ?_
                      exact ih77 (y4_77 + (0:Int32)) (y5_77 + (1:Int32)) _ _ _ hP hD hS (lv_sub hl [0, 1, 5, 6, 7, 8] rfl) hf
                    · replace hf := dg_f c22 hf
                      refine lv_iconst (v := 1) hx hb dX6_leaves_184 (by decide) ?_
                      refine lv_goto (tgt := 189) hx hb dX6_leaves_185 (by decide) ?_
                      refine lv_istore (lv' := [(8, .int (1:Int32)), (7, .int z7_93), (6, .int z6_93), (5, .int y5_77), (4, .int y4_77), (3, .int ((x7 + (1:Int32)) / (2:Int32))), (2, .int (x5 a1.toNatClampNeg)), (0, .ref ht), (1, .int a1)]) hx hb dX6_leaves_189 hl (by decide) rfl (fun ls hl => ?_)
                      refine lv_iload hx hb dX6_leaves_191 (lv_at hl 4 rfl) ?_
                      refine lv_iload hx hb dX6_leaves_193 (lv_at hl 0 rfl) ?_
                      refine lv_if_eq (tgt := 223) hx hb dX6_leaves_195 (by decide) (fun c24 => absurd c24 (by decide)) (fun c24 => ?_)
                      refine lv_iload hx hb dX6_leaves_198 (lv_at hl 2 rfl) ?_
                      refine lv_iconst (v := 1) hx hb dX6_leaves_200 (by decide) ?_
                      refine lv_iload_n hx hb dX6_leaves_201 rfl (lv_at hl 5 rfl) ?_
                      refine lv_ishl hx hb dX6_leaves_202 ?_
                      refine lv_iconst (v := 1) hx hb dX6_leaves_203 (by decide) ?_
                      refine lv_isub hx hb dX6_leaves_204 ?_
                      refine lv_icmp_ne (tgt := 223) hx hb dX6_leaves_205 (by decide) (fun c25 => ?_) (fun c25 => ?_)
                      · replace hf := dg_f c25 hf
                        refine lv_iconst (v := 0) hx hb dX6_leaves_223 (by decide) ?_
                        refine lv_iadd hx hb dX6_leaves_224 ?_
                        refine lv_istore (lv' := [(4, .int (y4_77 + (0:Int32))), (8, .int (1:Int32)), (7, .int z7_93), (6, .int z6_93), (5, .int y5_77), (3, .int ((x7 + (1:Int32)) / (2:Int32))), (2, .int (x5 a1.toNatClampNeg)), (0, .ref ht), (1, .int a1)]) hx hb dX6_leaves_225 hl (by decide) rfl (fun ls hl => ?_)
                        refine lv_iinc (v := (y5_77 + (1:Int32))) (lv' := [(5, .int (y5_77 + (1:Int32))), (4, .int (y4_77 + (0:Int32))), (8, .int (1:Int32)), (7, .int z7_93), (6, .int z6_93), (3, .int ((x7 + (1:Int32)) / (2:Int32))), (2, .int (x5 a1.toNatClampNeg)), (0, .ref ht), (1, .int a1)]) hx hb dX6_leaves_227 hl (k := 4) rfl (by first | rfl | decide) (by decide) rfl (fun ls hl => ?_)
                        refine lv_goto (tgt := 77) hx hb dX6_leaves_230 (by decide) ?_
                        exact ih77 (y4_77 + (0:Int32)) (y5_77 + (1:Int32)) _ _ _ hP hD hS (lv_sub hl [0, 1, 5, 6, 7, 8] rfl) hf
                      · replace hf := dg_t c25 hf
                        refine lv_iload hx hb dX6_leaves_208 (lv_at hl 1 rfl) ?_
                        refine lv_aload_n hx hb dX6_leaves_210 rfl (lv_at hl 7 rfl) ?_
                        refine va_get (D := (dC, dI)) (ci := 5) (v := .ref ht_told) (C := RX6) (T := TX6) (N := 19) hx hb hts hinX6 hown hK hP 1 rfl rfl 4 (by decide) hw0 (fun _ h9 => h9) rfl dX6_leaves_211 ?_
                        refine lv_iload_n hx hb dX6_leaves_214 rfl (lv_at hl 8 rfl) ?_
                        obtain ⟨hi26, hf⟩ := dg_ix hf
                        refine va_iald hx hb hK hP 0 0 rfl rfl hi26 dX6_leaves_215 ?_
                        refine lv_icmp_ne (tgt := 223) hx hb dX6_leaves_216 (by decide) (fun c27 => ?_) (fun c27 => ?_)
                        · replace hf := dg_f c27 hf
                          refine lv_iconst (v := 0) hx hb dX6_leaves_223 (by decide) ?_
                          refine lv_iadd hx hb dX6_leaves_224 ?_
                          refine lv_istore (lv' := [(4, .int (y4_77 + (0:Int32))), (8, .int (1:Int32)), (7, .int z7_93), (6, .int z6_93), (5, .int y5_77), (3, .int ((x7 + (1:Int32)) / (2:Int32))), (2, .int (x5 a1.toNatClampNeg)), (0, .ref ht), (1, .int a1)]) hx hb dX6_leaves_225 hl (by decide) rfl (fun ls hl => ?_)
                          refine lv_iinc (v := (y5_77 + (1:Int32))) (lv' := [(5, .int (y5_77 + (1:Int32))), (4, .int (y4_77 + (0:Int32))), (8, .int (1:Int32)), (7, .int z7_93), (6, .int z6_93), (3, .int ((x7 + (1:Int32)) / (2:Int32))), (2, .int (x5 a1.toNatClampNeg)), (0, .ref ht), (1, .int a1)]) hx hb dX6_leaves_227 hl (k := 4) rfl (by first | rfl | decide) (by decide) rfl (fun ls hl => ?_)
                          refine lv_goto (tgt := 77) hx hb dX6_leaves_230 (by decide) ?_
                          exact ih77 (y4_77 + (0:Int32)) (y5_77 + (1:Int32)) _ _ _ hP hD hS (lv_sub hl [0, 1, 5, 6, 7, 8] rfl) hf
                        · replace hf := dg_t c27 hf
                          refine lv_iconst (v := 1) hx hb dX6_leaves_219 (by decide) ?_
                          refine lv_goto (tgt := 224) hx hb dX6_leaves_220 (by decide) ?_
                          refine lv_iadd hx hb dX6_leaves_224 ?_
                          refine lv_istore (lv' := [(4, .int (y4_77 + (1:Int32))), (8, .int (1:Int32)), (7, .int z7_93), (6, .int z6_93), (5, .int y5_77), (3, .int ((x7 + (1:Int32)) / (2:Int32))), (2, .int (x5 a1.toNatClampNeg)), (0, .ref ht), (1, .int a1)]) hx hb dX6_leaves_225 hl (by decide) rfl (fun ls hl => ?_)
                          refine lv_iinc (v := (y5_77 + (1:Int32))) (lv' := [(5, .int (y5_77 + (1:Int32))), (4, .int (y4_77 + (1:Int32))), (8, .int (1:Int32)), (7, .int z7_93), (6, .int z6_93), (3, .int ((x7 + (1:Int32)) / (2:Int32))), (2, .int (x5 a1.toNatClampNeg)), (0, .ref ht), (1, .int a1)]) hx hb dX6_leaves_227 hl (k := 4) rfl (by first | rfl | decide) (by decide) rfl (fun ls hl => ?_)
                          refine lv_goto (tgt := 77) hx hb dX6_leaves_230 (by decide) ?_
                          exact ih77 (y4_77 + (1:Int32)) (y5_77 + (1:Int32)) _ _ _ hP hD hS (lv_sub hl [0, 1, 5, 6, 7, 8] rfl) hf
              have lp93 : ∀ (n93 : Nat) (y6_93 : Int32) (y7_93 : Int32) (y8_93 : Int32) (H : Heap) (locs : List Loc) (ls : Array Slot), va_P (dC, dI) vwCl [(ht_told, .inl (cI, 4, .inl vt_told)), (ht, .inr (5, [.int vt_clerks, .ref ht_drops, .ref ht_tires, .ref ht_now, .ref ht_told, .ref ht_text, .int vt_length, .ref ht_pages, .int vt_acts, .int vt_next, .ref ht_row, .int vt_found, .ref ht_alike, .ref ht_table, .ref ht_keys, .ref ht_own, .long vt_seed, .ref ht_isKept, .ref ht_kept])), (ht_drops, .inl (cI, 4, .inl vt_drops)), (ht_tires, .inl (cI, 4, .inl vt_tires)), (ht_now, .inl (cI, 13, .inl vt_now)), (ht_pages, .inl (cI, 4, .inl x5))] H → va_D A [(ht_told, .inl (cI, 4, .inl vt_told)), (ht, .inr (5, [.int vt_clerks, .ref ht_drops, .ref ht_tires, .ref ht_now, .ref ht_told, .ref ht_text, .int vt_length, .ref ht_pages, .int vt_acts, .int vt_next, .ref ht_row, .int vt_found, .ref ht_alike, .ref ht_table, .ref ht_keys, .ref ht_own, .long vt_seed, .ref ht_isKept, .ref ht_kept])), (ht_drops, .inl (cI, 4, .inl vt_drops)), (ht_tires, .inl (cI, 4, .inl vt_tires)), (ht_now, .inl (cI, 13, .inl vt_now)), (ht_pages, .inl (cI, 4, .inl x5))] → va_S A s.heap H locs → lv_has ls 10 [(8, .int y8_93), (7, .int y7_93), (6, .int y6_93), (5, .int y5_77), (4, .int y4_77), (3, .int ((x7 + (1:Int32)) / (2:Int32))), (2, .int (x5 a1.toNatClampNeg)), (0, .ref ht), (1, .int a1)] → f_X6_leaves_93 N a1 x5 x7 y5_77 (fun z6_93 z7_93 z8_93 => if ((x7 + (1:Int32)) / (2:Int32)) = (3:Int32) then if z6_93 = (((1:Int32) <<< (((x7 + (1:Int32)) / (2:Int32)) &&& 31)) - (1:Int32)) then gI a1 4 (if z7_93 = (vt_told a1.toNatClampNeg) then f_X6_leaves_77 N a1 vt_told x5 x7 (fun z4_77 z5_77 => some (z4_77, x5)) n77 (y4_77 + (1:Int32)) (y5_77 + (1:Int32)) else f_X6_leaves_77 N a1 vt_told x5 x7 (fun z4_77 z5_77 => some (z4_77, x5)) n77 (y4_77 + (0:Int32)) (y5_77 + (1:Int32))) else f_X6_leaves_77 N a1 vt_told x5 x7 (fun z4_77 z5_77 => some (z4_77, x5)) n77 (y4_77 + (0:Int32)) (y5_77 + (1:Int32)) else if ((x7 + (1:Int32)) / (2:Int32)) = (2:Int32) then if (9:Int32) ≤ y5_77 then f_X6_leaves_77 N a1 vt_told x5 x7 (fun z4_77 z5_77 => some (z4_77, x5)) n77 (y4_77 + (0:Int32)) (y5_77 + (1:Int32)) else if z6_93 = (((1:Int32) <<< (((x7 + (1:Int32)) / (2:Int32)) &&& 31)) - (1:Int32)) then gI a1 4 (if z7_93 = (vt_told a1.toNatClampNeg) then f_X6_leaves_77 N a1 vt_told x5 x7 (fun z4_77 z5_77 => some (z4_77, x5)) n77 (y4_77 + (1:Int32)) (y5_77 + (1:Int32)) else f_X6_leaves_77 N a1 vt_told x5 x7 (fun z4_77 z5_77 => some (z4_77, x5)) n77 (y4_77 + (0:Int32)) (y5_77 + (1:Int32))) else f_X6_leaves_77 N a1 vt_told x5 x7 (fun z4_77 z5_77 => some (z4_77, x5)) n77 (y4_77 + (0:Int32)) (y5_77 + (1:Int32)) else if (3:Int32) ≤ y5_77 then f_X6_leaves_77 N a1 vt_told x5 x7 (fun z4_77 z5_77 => some (z4_77, x5)) n77 (y4_77 + (0:Int32)) (y5_77 + (1:Int32)) else if z6_93 = (((1:Int32) <<< (((x7 + (1:Int32)) / (2:Int32)) &&& 31)) - (1:Int32)) then gI a1 4 (if z7_93 = (vt_told a1.toNatClampNeg) then f_X6_leaves_77 N a1 vt_told x5 x7 (fun z4_77 z5_77 => some (z4_77, x5)) n77 (y4_77 + (1:Int32)) (y5_77 + (1:Int32)) else f_X6_leaves_77 N a1 vt_told x5 x7 (fun z4_77 z5_77 => some (z4_77, x5)) n77 (y4_77 + (0:Int32)) (y5_77 + (1:Int32))) else f_X6_leaves_77 N a1 vt_told x5 x7 (fun z4_77 z5_77 => some (z4_77, x5)) n77 (y4_77 + (0:Int32)) (y5_77 + (1:Int32))) n93 y6_93 y7_93 y8_93 = some R → W p l e (rm_X6_leaves) s m ([.ref ht, .int a1] : List Value).toArray below meth c H locs 0 0 (MQ below (q_X6_leaves dC dI cI cJ cZ ht ht_drops ht_tires ht_now ht_told ht_text ht_pages ht_row ht_alike ht_table ht_keys ht_own ht_isKept ht_kept vt_clerks vt_length vt_acts vt_next vt_found vt_seed vt_drops vt_tires vt_now vt_told R A) ([.ref ht, .int a1] : List Value).toArray s 0 0 A) (F0 m 93 ls []) := by
                intro n93
                induction n93 with
                | zero => intro y6_93 y7_93 y8_93 H locs ls hP hD hS hl hf; rw [f_X6_leaves_93] at hf; cases hf
                | succ n93 ih93 =>
                  intro y6_93 y7_93 y8_93 H locs ls hP hD hS hl hf
                  rw [f_X6_leaves_93] at hf
                  refine lv_iload hx hb dX6_leaves_93 (lv_at hl 0 rfl) ?_
                  refine lv_iload_n hx hb dX6_leaves_95 rfl (lv_at hl 5 rfl) ?_
                  refine lv_icmp_ge (tgt := 163) hx hb dX6_leaves_96 (by decide) (fun c28 => ?_) (fun c28 => ?_)
                  · replace hf := dg_t c28 hf
                    exact ex93 y6_93 y7_93 y8_93 _ _ _ hP hD hS (lv_sub hl [0, 1, 2, 3, 4, 5, 6, 7, 8] rfl) hf
                  · replace hf := dg_f c28 hf
                    refine lv_iload hx hb dX6_leaves_99 (lv_at hl 3 rfl) ?_
                    refine lv_iload hx hb dX6_leaves_101 (lv_at hl 0 rfl) ?_
                    refine lv_if_ne (tgt := 110) hx hb dX6_leaves_103 (by decide) (fun c29 => ?_) (fun c29 => ?_)
                    · replace hf := dg_f c29 hf
                      refine lv_iload hx hb dX6_leaves_110 (lv_at hl 0 rfl) ?_
                      refine lv_iconst (v := 1) hx hb dX6_leaves_112 (by decide) ?_
                      refine lv_icmp_ne (tgt := 120) hx hb dX6_leaves_113 (by decide) (fun c30 => ?_) (fun c30 => ?_)
                      · replace hf := dg_f c30 hf
                        refine lv_bipush (v := 9) hx hb dX6_leaves_120 (by decide) ?_
                        refine lv_idiv hx hb dX6_leaves_122 (by decide) ?_
                        refine lv_iconst (v := 3) hx hb dX6_leaves_123 (by decide) ?_
                        refine lv_irem hx hb dX6_leaves_124 (by decide) ?_
                        refine lv_istore (lv' := [(9, .int ((y5_77 / (9:Int32)) - (y5_77 / (9:Int32)) / (3:Int32) * (3:Int32))), (8, .int y8_93), (7, .int y7_93), (6, .int y6_93), (5, .int y5_77), (4, .int y4_77), (3, .int ((x7 + (1:Int32)) / (2:Int32))), (2, .int (x5 a1.toNatClampNeg)), (0, .ref ht), (1, .int a1)]) hx hb dX6_leaves_125 hl (by decide) rfl (fun ls hl => ?_)
                        refine lv_iload hx hb dX6_leaves_127 (lv_at hl 3 rfl) ?_
                        refine lv_iconst (v := 1) hx hb dX6_leaves_129 (by decide) ?_
                        refine lv_iload hx hb dX6_leaves_130 (lv_at hl 0 rfl) ?_
                        refine lv_ishl hx hb dX6_leaves_132 ?_
                        refine lv_ior hx hb dX6_leaves_133 ?_
                        refine lv_istore (lv' := [(6, .int (y6_93 ||| ((1:Int32) <<< (((y5_77 / (9:Int32)) - (y5_77 / (9:Int32)) / (3:Int32) * (3:Int32)) &&& 31)))), (9, .int ((y5_77 / (9:Int32)) - (y5_77 / (9:Int32)) / (3:Int32) * (3:Int32))), (8, .int y8_93), (7, .int y7_93), (5, .int y5_77), (4, .int y4_77), (3, .int ((x7 + (1:Int32)) / (2:Int32))), (2, .int (x5 a1.toNatClampNeg)), (0, .ref ht), (1, .int a1)]) hx hb dX6_leaves_134 hl (by decide) rfl (fun ls hl => ?_)
                        refine lv_iload hx hb dX6_leaves_136 (lv_at hl 1 rfl) ?_
                        refine lv_iload_n hx hb dX6_leaves_138 rfl (lv_at hl 6 rfl) ?_
                        refine lv_icmp_ge (tgt := 153) hx hb dX6_leaves_139 (by decide) (fun c31 => ?_) (fun c31 => ?_)
                        · replace hf := dg_t c31 hf
                          refine lv_iload hx hb dX6_leaves_153 (lv_at hl 3 rfl) ?_
                          refine lv_istore (lv' := [(7, .int y7_93), (6, .int (y6_93 ||| ((1:Int32) <<< (((y5_77 / (9:Int32)) - (y5_77 / (9:Int32)) / (3:Int32) * (3:Int32)) &&& 31)))), (9, .int ((y5_77 / (9:Int32)) - (y5_77 / (9:Int32)) / (3:Int32) * (3:Int32))), (8, .int y8_93), (5, .int y5_77), (4, .int y4_77), (3, .int ((x7 + (1:Int32)) / (2:Int32))), (2, .int (x5 a1.toNatClampNeg)), (0, .ref ht), (1, .int a1)]) hx hb dX6_leaves_155 hl (by decide) rfl (fun ls hl => ?_)
                          refine lv_iinc (v := (y8_93 + (1:Int32))) (lv' := [(8, .int (y8_93 + (1:Int32))), (7, .int y7_93), (6, .int (y6_93 ||| ((1:Int32) <<< (((y5_77 / (9:Int32)) - (y5_77 / (9:Int32)) / (3:Int32) * (3:Int32)) &&& 31)))), (9, .int ((y5_77 / (9:Int32)) - (y5_77 / (9:Int32)) / (3:Int32) * (3:Int32))), (5, .int y5_77), (4, .int y4_77), (3, .int ((x7 + (1:Int32)) / (2:Int32))), (2, .int (x5 a1.toNatClampNeg)), (0, .ref ht), (1, .int a1)]) hx hb dX6_leaves_157 hl (k := 3) rfl (by first | rfl | decide) (by decide) rfl (fun ls hl => ?_)
                          refine lv_goto (tgt := 93) hx hb dX6_leaves_160 (by decide) ?_
                          exact ih93 (y6_93 ||| ((1:Int32) <<< (((y5_77 / (9:Int32)) - (y5_77 / (9:Int32)) / (3:Int32) * (3:Int32)) &&& 31))) y7_93 (y8_93 + (1:Int32)) _ _ _ hP hD hS (lv_sub hl [0, 1, 2, 4, 5, 6, 7, 8, 9] rfl) hf
                        · replace hf := dg_f c31 hf
                          refine lv_iload hx hb dX6_leaves_142 (lv_at hl 3 rfl) ?_
                          refine lv_iload_n hx hb dX6_leaves_144 rfl (lv_at hl 7 rfl) ?_
                          refine lv_iload hx hb dX6_leaves_145 (lv_at hl 1 rfl) ?_
                          obtain ⟨x32, hx32, hf⟩ := dg_bind hf
                          have hPc : va_P (dC, dI) vwCl [] H := hP.sub [] rfl
                          have hDc : va_D A [] := hD.sub [] (by decide) rfl
                          have hFc := va_free (wc := []) hD hS hA [] rfl
                          refine va_calli (va_runS (As := [.int y7_93, .int (x5 a1.toNatClampNeg), .int ((y5_77 / (9:Int32)) - (y5_77 / (9:Int32)) / (3:Int32) * (3:Int32))]) (rest := []) ⟨hx, hb, hml, hown, hts⟩ (k_X6_withLeaf l dC dI cI cJ cZ H.size y7_93 (x5 a1.toNatClampNeg) ((y5_77 / (9:Int32)) - (y5_77 / (9:Int32)) / (3:Int32) * (3:Int32)) N x32 hx32) (va_cwS 3 hts gX6_leaves_X6_withLeaf rfl rfl rfl hd_X6_withLeaf ⟨Nat.le_of_ble_eq_true rfl, Nat.le_of_ble_eq_true rfl⟩) ⟨blind_pc, pre_pc hPc hK hDc⟩ rfl rfl hl.1 rfl (lv_room (Nat.le_of_ble_eq_true rfl)) dX6_leaves_147 ⟨Nat.zero_le _, Nat.zero_le _⟩) hS (fun q _ h => hFc q h) hFc (fun r u t H1 locs eth hvm hw hB hz1 hk1 hS => ?_)
                          obtain ⟨hP1, hK1, hD1⟩ := hB
                          rw [eth] at hP1
                          subst hw
                          obtain ⟨hP, hD⟩ := va_join (wr := [(ht_told, .inl (cI, 4, .inl vt_told)), (ht, .inr (5, [.int vt_clerks, .ref ht_drops, .ref ht_tires, .ref ht_now, .ref ht_told, .ref ht_text, .int vt_length, .ref ht_pages, .int vt_acts, .int vt_next, .ref ht_row, .int vt_found, .ref ht_alike, .ref ht_table, .ref ht_keys, .ref ht_own, .long vt_seed, .ref ht_isKept, .ref ht_kept])), (ht_drops, .inl (cI, 4, .inl vt_drops)), (ht_tires, .inl (cI, 4, .inl vt_tires)), (ht_now, .inl (cI, 13, .inl vt_now)), (ht_pages, .inl (cI, 4, .inl x5))]) (w1 := []) hP hD [] [0, 1, 2, 3, 4, 5] rfl rfl (by decide) (by decide) hk1 hFc hP1 hD1
                          clear hP1 hK1 hD1 hPc hDc hFc hk1 hz1 hvm eth
                          generalize H1 = H at hP hS ⊢
                          have hP : va_P (dC, dI) vwCl [(ht_told, .inl (cI, 4, .inl vt_told)), (ht, .inr (5, [.int vt_clerks, .ref ht_drops, .ref ht_tires, .ref ht_now, .ref ht_told, .ref ht_text, .int vt_length, .ref ht_pages, .int vt_acts, .int vt_next, .ref ht_row, .int vt_found, .ref ht_alike, .ref ht_table, .ref ht_keys, .ref ht_own, .long vt_seed, .ref ht_isKept, .ref ht_kept])), (ht_drops, .inl (cI, 4, .inl vt_drops)), (ht_tires, .inl (cI, 4, .inl vt_tires)), (ht_now, .inl (cI, 13, .inl vt_now)), (ht_pages, .inl (cI, 4, .inl x5))] H := hP
                          have hD : va_D A [(ht_told, .inl (cI, 4, .inl vt_told)), (ht, .inr (5, [.int vt_clerks, .ref ht_drops, .ref ht_tires, .ref ht_now, .ref ht_told, .ref ht_text, .int vt_length, .ref ht_pages, .int vt_acts, .int vt_next, .ref ht_row, .int vt_found, .ref ht_alike, .ref ht_table, .ref ht_keys, .ref ht_own, .long vt_seed, .ref ht_isKept, .ref ht_kept])), (ht_drops, .inl (cI, 4, .inl vt_drops)), (ht_tires, .inl (cI, 4, .inl vt_tires)), (ht_now, .inl (cI, 13, .inl vt_now)), (ht_pages, .inl (cI, 4, .inl x5))] := hD
                          refine lv_goto (tgt := 155) hx hb dX6_leaves_150 (by decide) ?_
                          refine lv_istore (lv' := [(7, .int x32), (6, .int (y6_93 ||| ((1:Int32) <<< (((y5_77 / (9:Int32)) - (y5_77 / (9:Int32)) / (3:Int32) * (3:Int32)) &&& 31)))), (9, .int ((y5_77 / (9:Int32)) - (y5_77 / (9:Int32)) / (3:Int32) * (3:Int32))), (8, .int y8_93), (5, .int y5_77), (4, .int y4_77), (3, .int ((x7 + (1:Int32)) / (2:Int32))), (2, .int (x5 a1.toNatClampNeg)), (0, .ref ht), (1, .int a1)]) hx hb dX6_leaves_155 hl (by decide) rfl (fun ls hl => ?_)
                          refine lv_iinc (v := (y8_93 + (1:Int32))) (lv' := [(8, .int (y8_93 + (1:Int32))), (7, .int x32), (6, .int (y6_93 ||| ((1:Int32) <<< (((y5_77 / (9:Int32)) - (y5_77 / (9:Int32)) / (3:Int32) * (3:Int32)) &&& 31)))), (9, .int ((y5_77 / (9:Int32)) - (y5_77 / (9:Int32)) / (3:Int32) * (3:Int32))), (5, .int y5_77), (4, .int y4_77), (3, .int ((x7 + (1:Int32)) / (2:Int32))), (2, .int (x5 a1.toNatClampNeg)), (0, .ref ht), (1, .int a1)]) hx hb dX6_leaves_157 hl (k := 3) rfl (by first | rfl | decide) (by decide) rfl (fun ls hl => ?_)
                          refine lv_goto (tgt := 93) hx hb dX6_leaves_160 (by decide) ?_
                          exact ih93 (y6_93 ||| ((1:Int32) <<< (((y5_77 / (9:Int32)) - (y5_77 / (9:Int32)) / (3:Int32) * (3:Int32)) &&& 31))) x32 (y8_93 + (1:Int32)) _ _ _ hP hD hS (lv_sub hl [0, 1, 2, 4, 5, 6, 7, 8, 9] rfl) hf
                      · replace hf := dg_t c30 hf
                        refine lv_iconst (v := 3) hx hb dX6_leaves_116 (by decide) ?_
                        refine lv_goto (tgt := 122) hx hb dX6_leaves_117 (by decide) ?_
                        refine lv_idiv hx hb dX6_leaves_122 (by decide) ?_
                        refine lv_iconst (v := 3) hx hb dX6_leaves_123 (by decide) ?_
                        refine lv_irem hx hb dX6_leaves_124 (by decide) ?_
                        refine lv_istore (lv' := [(9, .int ((y5_77 / (3:Int32)) - (y5_77 / (3:Int32)) / (3:Int32) * (3:Int32))), (8, .int y8_93), (7, .int y7_93), (6, .int y6_93), (5, .int y5_77), (4, .int y4_77), (3, .int ((x7 + (1:Int32)) / (2:Int32))), (2, .int (x5 a1.toNatClampNeg)), (0, .ref ht), (1, .int a1)]) hx hb dX6_leaves_125 hl (by decide) rfl (fun ls hl => ?_)
                        refine lv_iload hx hb dX6_leaves_127 (lv_at hl 3 rfl) ?_
                        refine lv_iconst (v := 1) hx hb dX6_leaves_129 (by decide) ?_
                        refine lv_iload hx hb dX6_leaves_130 (lv_at hl 0 rfl) ?_
                        refine lv_ishl hx hb dX6_leaves_132 ?_
                        refine lv_ior hx hb dX6_leaves_133 ?_
                        refine lv_istore (lv' := [(6, .int (y6_93 ||| ((1:Int32) <<< (((y5_77 / (3:Int32)) - (y5_77 / (3:Int32)) / (3:Int32) * (3:Int32)) &&& 31)))), (9, .int ((y5_77 / (3:Int32)) - (y5_77 / (3:Int32)) / (3:Int32) * (3:Int32))), (8, .int y8_93), (7, .int y7_93), (5, .int y5_77), (4, .int y4_77), (3, .int ((x7 + (1:Int32)) / (2:Int32))), (2, .int (x5 a1.toNatClampNeg)), (0, .ref ht), (1, .int a1)]) hx hb dX6_leaves_134 hl (by decide) rfl (fun ls hl => ?_)
                        refine lv_iload hx hb dX6_leaves_136 (lv_at hl 1 rfl) ?_
                        refine lv_iload_n hx hb dX6_leaves_138 rfl (lv_at hl 6 rfl) ?_
                        refine lv_icmp_ge (tgt := 153) hx hb dX6_leaves_139 (by decide) (fun c33 => ?_) (fun c33 => ?_)
                        · replace hf := dg_t c33 hf
                          refine lv_iload hx hb dX6_leaves_153 (lv_at hl 3 rfl) ?_
                          refine lv_istore (lv' := [(7, .int y7_93), (6, .int (y6_93 ||| ((1:Int32) <<< (((y5_77 / (3:Int32)) - (y5_77 / (3:Int32)) / (3:Int32) * (3:Int32)) &&& 31)))), (9, .int ((y5_77 / (3:Int32)) - (y5_77 / (3:Int32)) / (3:Int32) * (3:Int32))), (8, .int y8_93), (5, .int y5_77), (4, .int y4_77), (3, .int ((x7 + (1:Int32)) / (2:Int32))), (2, .int (x5 a1.toNatClampNeg)), (0, .ref ht), (1, .int a1)]) hx hb dX6_leaves_155 hl (by decide) rfl (fun ls hl => ?_)
                          refine lv_iinc (v := (y8_93 + (1:Int32))) (lv' := [(8, .int (y8_93 + (1:Int32))), (7, .int y7_93), (6, .int (y6_93 ||| ((1:Int32) <<< (((y5_77 / (3:Int32)) - (y5_77 / (3:Int32)) / (3:Int32) * (3:Int32)) &&& 31)))), (9, .int ((y5_77 / (3:Int32)) - (y5_77 / (3:Int32)) / (3:Int32) * (3:Int32))), (5, .int y5_77), (4, .int y4_77), (3, .int ((x7 + (1:Int32)) / (2:Int32))), (2, .int (x5 a1.toNatClampNeg)), (0, .ref ht), (1, .int a1)]) hx hb dX6_leaves_157 hl (k := 3) rfl (by first | rfl | decide) (by decide) rfl (fun ls hl => ?_)
                          refine lv_goto (tgt := 93) hx hb dX6_leaves_160 (by decide) ?_
                          exact ih93 (y6_93 ||| ((1:Int32) <<< (((y5_77 / (3:Int32)) - (y5_77 / (3:Int32)) / (3:Int32) * (3:Int32)) &&& 31))) y7_93 (y8_93 + (1:Int32)) _ _ _ hP hD hS (lv_sub hl [0, 1, 2, 4, 5, 6, 7, 8, 9] rfl) hf
                        · replace hf := dg_f c33 hf
                          refine lv_iload hx hb dX6_leaves_142 (lv_at hl 3 rfl) ?_
                          refine lv_iload_n hx hb dX6_leaves_144 rfl (lv_at hl 7 rfl) ?_
                          refine lv_iload hx hb dX6_leaves_145 (lv_at hl 1 rfl) ?_
                          obtain ⟨x34, hx34, hf⟩ := dg_bind hf
                          have hPc : va_P (dC, dI) vwCl [] H := hP.sub [] rfl
                          have hDc : va_D A [] := hD.sub [] (by decide) rfl
                          have hFc := va_free (wc := []) hD hS hA [] rfl
                          refine va_calli (va_runS (As := [.int y7_93, .int (x5 a1.toNatClampNeg), .int ((y5_77 / (3:Int32)) - (y5_77 / (3:Int32)) / (3:Int32) * (3:Int32))]) (rest := []) ⟨hx, hb, hml, hown, hts⟩ (k_X6_withLeaf l dC dI cI cJ cZ H.size y7_93 (x5 a1.toNatClampNeg) ((y5_77 / (3:Int32)) - (y5_77 / (3:Int32)) / (3:Int32) * (3:Int32)) N x34 hx34) (va_cwS 3 hts gX6_leaves_X6_withLeaf rfl rfl rfl hd_X6_withLeaf ⟨Nat.le_of_ble_eq_true rfl, Nat.le_of_ble_eq_true rfl⟩) ⟨blind_pc, pre_pc hPc hK hDc⟩ rfl rfl hl.1 rfl (lv_room (Nat.le_of_ble_eq_true rfl)) dX6_leaves_147 ⟨Nat.zero_le _, Nat.zero_le _⟩) hS (fun q _ h => hFc q h) hFc (fun r u t H1 locs eth hvm hw hB hz1 hk1 hS => ?_)
                          obtain ⟨hP1, hK1, hD1⟩ := hB
                          rw [eth] at hP1
                          subst hw
                          obtain ⟨hP, hD⟩ := va_join (wr := [(ht_told, .inl (cI, 4, .inl vt_told)), (ht, .inr (5, [.int vt_clerks, .ref ht_drops, .ref ht_tires, .ref ht_now, .ref ht_told, .ref ht_text, .int vt_length, .ref ht_pages, .int vt_acts, .int vt_next, .ref ht_row, .int vt_found, .ref ht_alike, .ref ht_table, .ref ht_keys, .ref ht_own, .long vt_seed, .ref ht_isKept, .ref ht_kept])), (ht_drops, .inl (cI, 4, .inl vt_drops)), (ht_tires, .inl (cI, 4, .inl vt_tires)), (ht_now, .inl (cI, 13, .inl vt_now)), (ht_pages, .inl (cI, 4, .inl x5))]) (w1 := []) hP hD [] [0, 1, 2, 3, 4, 5] rfl rfl (by decide) (by decide) hk1 hFc hP1 hD1
                          clear hP1 hK1 hD1 hPc hDc hFc hk1 hz1 hvm eth
                          generalize H1 = H at hP hS ⊢
                          have hP : va_P (dC, dI) vwCl [(ht_told, .inl (cI, 4, .inl vt_told)), (ht, .inr (5, [.int vt_clerks, .ref ht_drops, .ref ht_tires, .ref ht_now, .ref ht_told, .ref ht_text, .int vt_length, .ref ht_pages, .int vt_acts, .int vt_next, .ref ht_row, .int vt_found, .ref ht_alike, .ref ht_table, .ref ht_keys, .ref ht_own, .long vt_seed, .ref ht_isKept, .ref ht_kept])), (ht_drops, .inl (cI, 4, .inl vt_drops)), (ht_tires, .inl (cI, 4, .inl vt_tires)), (ht_now, .inl (cI, 13, .inl vt_now)), (ht_pages, .inl (cI, 4, .inl x5))] H := hP
                          have hD : va_D A [(ht_told, .inl (cI, 4, .inl vt_told)), (ht, .inr (5, [.int vt_clerks, .ref ht_drops, .ref ht_tires, .ref ht_now, .ref ht_told, .ref ht_text, .int vt_length, .ref ht_pages, .int vt_acts, .int vt_next, .ref ht_row, .int vt_found, .ref ht_alike, .ref ht_table, .ref ht_keys, .ref ht_own, .long vt_seed, .ref ht_isKept, .ref ht_kept])), (ht_drops, .inl (cI, 4, .inl vt_drops)), (ht_tires, .inl (cI, 4, .inl vt_tires)), (ht_now, .inl (cI, 13, .inl vt_now)), (ht_pages, .inl (cI, 4, .inl x5))] := hD
                          refine lv_goto (tgt := 155) hx hb dX6_leaves_150 (by decide) ?_
                          refine lv_istore (lv' := [(7, .int x34), (6, .int (y6_93 ||| ((1:Int32) <<< (((y5_77 / (3:Int32)) - (y5_77 / (3:Int32)) / (3:Int32) * (3:Int32)) &&& 31)))), (9, .int ((y5_77 / (3:Int32)) - (y5_77 / (3:Int32)) / (3:Int32) * (3:Int32))), (8, .int y8_93), (5, .int y5_77), (4, .int y4_77), (3, .int ((x7 + (1:Int32)) / (2:Int32))), (2, .int (x5 a1.toNatClampNeg)), (0, .ref ht), (1, .int a1)]) hx hb dX6_leaves_155 hl (by decide) rfl (fun ls hl => ?_)
                          refine lv_iinc (v := (y8_93 + (1:Int32))) (lv' := [(8, .int (y8_93 + (1:Int32))), (7, .int x34), (6, .int (y6_93 ||| ((1:Int32) <<< (((y5_77 / (3:Int32)) - (y5_77 / (3:Int32)) / (3:Int32) * (3:Int32)) &&& 31)))), (9, .int ((y5_77 / (3:Int32)) - (y5_77 / (3:Int32)) / (3:Int32) * (3:Int32))), (5, .int y5_77), (4, .int y4_77), (3, .int ((x7 + (1:Int32)) / (2:Int32))), (2, .int (x5 a1.toNatClampNeg)), (0, .ref ht), (1, .int a1)]) hx hb dX6_leaves_157 hl (k := 3) rfl (by first | rfl | decide) (by decide) rfl (fun ls hl => ?_)
                          refine lv_goto (tgt := 93) hx hb dX6_leaves_160 (by decide) ?_
                          exact ih93 (y6_93 ||| ((1:Int32) <<< (((y5_77 / (3:Int32)) - (y5_77 / (3:Int32)) / (3:Int32) * (3:Int32)) &&& 31))) x34 (y8_93 + (1:Int32)) _ _ _ hP hD hS (lv_sub hl [0, 1, 2, 4, 5, 6, 7, 8, 9] rfl) hf
                    · replace hf := dg_t c29 hf
                      refine lv_iconst (v := 1) hx hb dX6_leaves_106 (by decide) ?_
                      refine lv_goto (tgt := 122) hx hb dX6_leaves_107 (by decide) ?_
                      refine lv_idiv hx hb dX6_leaves_122 (by decide) ?_
                      refine lv_iconst (v := 3) hx hb dX6_leaves_123 (by decide) ?_
                      refine lv_irem hx hb dX6_leaves_124 (by decide) ?_
                      refine lv_istore (lv' := [(9, .int ((y5_77 / (1:Int32)) - (y5_77 / (1:Int32)) / (3:Int32) * (3:Int32))), (8, .int y8_93), (7, .int y7_93), (6, .int y6_93), (5, .int y5_77), (4, .int y4_77), (3, .int ((x7 + (1:Int32)) / (2:Int32))), (2, .int (x5 a1.toNatClampNeg)), (0, .ref ht), (1, .int a1)]) hx hb dX6_leaves_125 hl (by decide) rfl (fun ls hl => ?_)
                      refine lv_iload hx hb dX6_leaves_127 (lv_at hl 3 rfl) ?_
                      refine lv_iconst (v := 1) hx hb dX6_leaves_129 (by decide) ?_
                      refine lv_iload hx hb dX6_leaves_130 (lv_at hl 0 rfl) ?_
                      refine lv_ishl hx hb dX6_leaves_132 ?_
                      refine lv_ior hx hb dX6_leaves_133 ?_
                      refine lv_istore (lv' := [(6, .int (y6_93 ||| ((1:Int32) <<< (((y5_77 / (1:Int32)) - (y5_77 / (1:Int32)) / (3:Int32) * (3:Int32)) &&& 31)))), (9, .int ((y5_77 / (1:Int32)) - (y5_77 / (1:Int32)) / (3:Int32) * (3:Int32))), (8, .int y8_93), (7, .int y7_93), (5, .int y5_77), (4, .int y4_77), (3, .int ((x7 + (1:Int32)) / (2:Int32))), (2, .int (x5 a1.toNatClampNeg)), (0, .ref ht), (1, .int a1)]) hx hb dX6_leaves_134 hl (by decide) rfl (fun ls hl => ?_)
                      refine lv_iload hx hb dX6_leaves_136 (lv_at hl 1 rfl) ?_
                      refine lv_iload_n hx hb dX6_leaves_138 rfl (lv_at hl 6 rfl) ?_
                      refine lv_icmp_ge (tgt := 153) hx hb dX6_leaves_139 (by decide) (fun c35 => ?_) (fun c35 => ?_)
                      · replace hf := dg_t c35 hf
                        refine lv_iload hx hb dX6_leaves_153 (lv_at hl 3 rfl) ?_
                        refine lv_istore (lv' := [(7, .int y7_93), (6, .int (y6_93 ||| ((1:Int32) <<< (((y5_77 / (1:Int32)) - (y5_77 / (1:Int32)) / (3:Int32) * (3:Int32)) &&& 31)))), (9, .int ((y5_77 / (1:Int32)) - (y5_77 / (1:Int32)) / (3:Int32) * (3:Int32))), (8, .int y8_93), (5, .int y5_77), (4, .int y4_77), (3, .int ((x7 + (1:Int32)) / (2:Int32))), (2, .int (x5 a1.toNatClampNeg)), (0, .ref ht), (1, .int a1)]) hx hb dX6_leaves_155 hl (by decide) rfl (fun ls hl => ?_)
                        refine lv_iinc (v := (y8_93 + (1:Int32))) (lv' := [(8, .int (y8_93 + (1:Int32))), (7, .int y7_93), (6, .int (y6_93 ||| ((1:Int32) <<< (((y5_77 / (1:Int32)) - (y5_77 / (1:Int32)) / (3:Int32) * (3:Int32)) &&& 31)))), (9, .int ((y5_77 / (1:Int32)) - (y5_77 / (1:Int32)) / (3:Int32) * (3:Int32))), (5, .int y5_77), (4, .int y4_77), (3, .int ((x7 + (1:Int32)) / (2:Int32))), (2, .int (x5 a1.toNatClampNeg)), (0, .ref ht), (1, .int a1)]) hx hb dX6_leaves_157 hl (k := 3) rfl (by first | rfl | decide) (by decide) rfl (fun ls hl => ?_)
                        refine lv_goto (tgt := 93) hx hb dX6_leaves_160 (by decide) ?_
                        exact ih93 (y6_93 ||| ((1:Int32) <<< (((y5_77 / (1:Int32)) - (y5_77 / (1:Int32)) / (3:Int32) * (3:Int32)) &&& 31))) y7_93 (y8_93 + (1:Int32)) _ _ _ hP hD hS (lv_sub hl [0, 1, 2, 4, 5, 6, 7, 8, 9] rfl) hf
                      · replace hf := dg_f c35 hf
                        refine lv_iload hx hb dX6_leaves_142 (lv_at hl 3 rfl) ?_
                        refine lv_iload_n hx hb dX6_leaves_144 rfl (lv_at hl 7 rfl) ?_
                        refine lv_iload hx hb dX6_leaves_145 (lv_at hl 1 rfl) ?_
                        obtain ⟨x36, hx36, hf⟩ := dg_bind hf
                        have hPc : va_P (dC, dI) vwCl [] H := hP.sub [] rfl
                        have hDc : va_D A [] := hD.sub [] (by decide) rfl
                        have hFc := va_free (wc := []) hD hS hA [] rfl
                        refine va_calli (va_runS (As := [.int y7_93, .int (x5 a1.toNatClampNeg), .int ((y5_77 / (1:Int32)) - (y5_77 / (1:Int32)) / (3:Int32) * (3:Int32))]) (rest := []) ⟨hx, hb, hml, hown, hts⟩ (k_X6_withLeaf l dC dI cI cJ cZ H.size y7_93 (x5 a1.toNatClampNeg) ((y5_77 / (1:Int32)) - (y5_77 / (1:Int32)) / (3:Int32) * (3:Int32)) N x36 hx36) (va_cwS 3 hts gX6_leaves_X6_withLeaf rfl rfl rfl hd_X6_withLeaf ⟨Nat.le_of_ble_eq_true rfl, Nat.le_of_ble_eq_true rfl⟩) ⟨blind_pc, pre_pc hPc hK hDc⟩ rfl rfl hl.1 rfl (lv_room (Nat.le_of_ble_eq_true rfl)) dX6_leaves_147 ⟨Nat.zero_le _, Nat.zero_le _⟩) hS (fun q _ h => hFc q h) hFc (fun r u t H1 locs eth hvm hw hB hz1 hk1 hS => ?_)
                        obtain ⟨hP1, hK1, hD1⟩ := hB
                        rw [eth] at hP1
                        subst hw
                        obtain ⟨hP, hD⟩ := va_join (wr := [(ht_told, .inl (cI, 4, .inl vt_told)), (ht, .inr (5, [.int vt_clerks, .ref ht_drops, .ref ht_tires, .ref ht_now, .ref ht_told, .ref ht_text, .int vt_length, .ref ht_pages, .int vt_acts, .int vt_next, .ref ht_row, .int vt_found, .ref ht_alike, .ref ht_table, .ref ht_keys, .ref ht_own, .long vt_seed, .ref ht_isKept, .ref ht_kept])), (ht_drops, .inl (cI, 4, .inl vt_drops)), (ht_tires, .inl (cI, 4, .inl vt_tires)), (ht_now, .inl (cI, 13, .inl vt_now)), (ht_pages, .inl (cI, 4, .inl x5))]) (w1 := []) hP hD [] [0, 1, 2, 3, 4, 5] rfl rfl (by decide) (by decide) hk1 hFc hP1 hD1
                        clear hP1 hK1 hD1 hPc hDc hFc hk1 hz1 hvm eth
                        generalize H1 = H at hP hS ⊢
                        have hP : va_P (dC, dI) vwCl [(ht_told, .inl (cI, 4, .inl vt_told)), (ht, .inr (5, [.int vt_clerks, .ref ht_drops, .ref ht_tires, .ref ht_now, .ref ht_told, .ref ht_text, .int vt_length, .ref ht_pages, .int vt_acts, .int vt_next, .ref ht_row, .int vt_found, .ref ht_alike, .ref ht_table, .ref ht_keys, .ref ht_own, .long vt_seed, .ref ht_isKept, .ref ht_kept])), (ht_drops, .inl (cI, 4, .inl vt_drops)), (ht_tires, .inl (cI, 4, .inl vt_tires)), (ht_now, .inl (cI, 13, .inl vt_now)), (ht_pages, .inl (cI, 4, .inl x5))] H := hP
                        have hD : va_D A [(ht_told, .inl (cI, 4, .inl vt_told)), (ht, .inr (5, [.int vt_clerks, .ref ht_drops, .ref ht_tires, .ref ht_now, .ref ht_told, .ref ht_text, .int vt_length, .ref ht_pages, .int vt_acts, .int vt_next, .ref ht_row, .int vt_found, .ref ht_alike, .ref ht_table, .ref ht_keys, .ref ht_own, .long vt_seed, .ref ht_isKept, .ref ht_kept])), (ht_drops, .inl (cI, 4, .inl vt_drops)), (ht_tires, .inl (cI, 4, .inl vt_tires)), (ht_now, .inl (cI, 13, .inl vt_now)), (ht_pages, .inl (cI, 4, .inl x5))] := hD
                        refine lv_goto (tgt := 155) hx hb dX6_leaves_150 (by decide) ?_
                        refine lv_istore (lv' := [(7, .int x36), (6, .int (y6_93 ||| ((1:Int32) <<< (((y5_77 / (1:Int32)) - (y5_77 / (1:Int32)) / (3:Int32) * (3:Int32)) &&& 31)))), (9, .int ((y5_77 / (1:Int32)) - (y5_77 / (1:Int32)) / (3:Int32) * (3:Int32))), (8, .int y8_93), (5, .int y5_77), (4, .int y4_77), (3, .int ((x7 + (1:Int32)) / (2:Int32))), (2, .int (x5 a1.toNatClampNeg)), (0, .ref ht), (1, .int a1)]) hx hb dX6_leaves_155 hl (by decide) rfl (fun ls hl => ?_)
                        refine lv_iinc (v := (y8_93 + (1:Int32))) (lv' := [(8, .int (y8_93 + (1:Int32))), (7, .int x36), (6, .int (y6_93 ||| ((1:Int32) <<< (((y5_77 / (1:Int32)) - (y5_77 / (1:Int32)) / (3:Int32) * (3:Int32)) &&& 31)))), (9, .int ((y5_77 / (1:Int32)) - (y5_77 / (1:Int32)) / (3:Int32) * (3:Int32))), (5, .int y5_77), (4, .int y4_77), (3, .int ((x7 + (1:Int32)) / (2:Int32))), (2, .int (x5 a1.toNatClampNeg)), (0, .ref ht), (1, .int a1)]) hx hb dX6_leaves_157 hl (k := 3) rfl (by first | rfl | decide) (by decide) rfl (fun ls hl => ?_)
                        refine lv_goto (tgt := 93) hx hb dX6_leaves_160 (by decide) ?_
                        exact ih93 (y6_93 ||| ((1:Int32) <<< (((y5_77 / (1:Int32)) - (y5_77 / (1:Int32)) / (3:Int32) * (3:Int32)) &&& 31))) x36 (y8_93 + (1:Int32)) _ _ _ hP hD hS (lv_sub hl [0, 1, 2, 4, 5, 6, 7, 8, 9] rfl) hf
              exact lp93 N (0:Int32) (0:Int32) (0:Int32) _ _ _ hP hD hS hl hf
        exact lp77 N (0:Int32) (0:Int32) _ _ _ hP hD hS hl hf
      · replace hf := dg_t c8 hf
        refine lv_aload_n hx hb dX6_leaves_56 rfl (lv_at hl 2 rfl) ?_
        refine va_get (D := (dC, dI)) (ci := 5) (v := .ref ht_told) (C := RX6) (T := TX6) (N := 19) hx hb hts hinX6 hown hK hP 1 rfl rfl 4 (by decide) hw0 (fun _ h9 => h9) rfl dX6_leaves_57 ?_
        refine lv_iload_n hx hb dX6_leaves_60 rfl (lv_at hl 3 rfl) ?_
        obtain ⟨hi37, hf⟩ := dg_ix hf
        refine va_iald hx hb hK hP 0 0 rfl rfl hi37 dX6_leaves_61 ?_
        refine lv_if_ne (tgt := 69) hx hb dX6_leaves_62 (by decide) (fun c38 => ?_) (fun c38 => ?_)
        · replace hf := dg_f c38 hf
          refine lv_iconst (v := 0) hx hb dX6_leaves_69 (by decide) ?_
          have he := Option.some.inj hf
          have hP9 := (hP.sub (ws' := [(ht, .inr (5, [.int vt_clerks, .ref ht_drops, .ref ht_tires, .ref ht_now, .ref ht_told, .ref ht_text, .int vt_length, .ref ht_pages, .int vt_acts, .int vt_next, .ref ht_row, .int vt_found, .ref ht_alike, .ref ht_table, .ref ht_keys, .ref ht_own, .long vt_seed, .ref ht_isKept, .ref ht_kept])), (ht_drops, .inl (cI, 4, .inl vt_drops)), (ht_tires, .inl (cI, 4, .inl vt_tires)), (ht_now, .inl (cI, 13, .inl vt_now)), (ht_told, .inl (cI, 4, .inl vt_told)), (ht_pages, .inl (cI, 4, .inl x5))]) [1, 2, 3, 4, 0, 5] rfl)
          have hD9 := (hD.sub (ws' := [(ht, .inr (5, [.int vt_clerks, .ref ht_drops, .ref ht_tires, .ref ht_now, .ref ht_told, .ref ht_text, .int vt_length, .ref ht_pages, .int vt_acts, .int vt_next, .ref ht_row, .int vt_found, .ref ht_alike, .ref ht_table, .ref ht_keys, .ref ht_own, .long vt_seed, .ref ht_isKept, .ref ht_kept])), (ht_drops, .inl (cI, 4, .inl vt_drops)), (ht_tires, .inl (cI, 4, .inl vt_tires)), (ht_now, .inl (cI, 13, .inl vt_now)), (ht_told, .inl (cI, 4, .inl vt_told)), (ht_pages, .inl (cI, 4, .inl x5))]) [1, 2, 3, 4, 0, 5] (by decide) rfl)
          exact W.iret (v := (0:Int32)) hx hb hr (fun t eth hW => ⟨⟨(0:Int32), x5, rfl, ⟨(congrArg Prod.fst he).symm, (congrArg Prod.snd he).symm⟩, by rw [eth]; exact hP9, va_K.moved hW.alike hK, hD9⟩, hS.F eth⟩) hS.2.2 dX6_leaves_70
        · replace hf := dg_t c38 hf
          refine lv_iconst (v := 1) hx hb dX6_leaves_65 (by decide) ?_
          refine lv_goto (tgt := 70) hx hb dX6_leaves_66 (by decide) ?_
          have he := Option.some.inj hf
          have hP9 := (hP.sub (ws' := [(ht, .inr (5, [.int vt_clerks, .ref ht_drops, .ref ht_tires, .ref ht_now, .ref ht_told, .ref ht_text, .int vt_length, .ref ht_pages, .int vt_acts, .int vt_next, .ref ht_row, .int vt_found, .ref ht_alike, .ref ht_table, .ref ht_keys, .ref ht_own, .long vt_seed, .ref ht_isKept, .ref ht_kept])), (ht_drops, .inl (cI, 4, .inl vt_drops)), (ht_tires, .inl (cI, 4, .inl vt_tires)), (ht_now, .inl (cI, 13, .inl vt_now)), (ht_told, .inl (cI, 4, .inl vt_told)), (ht_pages, .inl (cI, 4, .inl x5))]) [1, 2, 3, 4, 0, 5] rfl)
          have hD9 := (hD.sub (ws' := [(ht, .inr (5, [.int vt_clerks, .ref ht_drops, .ref ht_tires, .ref ht_now, .ref ht_told, .ref ht_text, .int vt_length, .ref ht_pages, .int vt_acts, .int vt_next, .ref ht_row, .int vt_found, .ref ht_alike, .ref ht_table, .ref ht_keys, .ref ht_own, .long vt_seed, .ref ht_isKept, .ref ht_kept])), (ht_drops, .inl (cI, 4, .inl vt_drops)), (ht_tires, .inl (cI, 4, .inl vt_tires)), (ht_now, .inl (cI, 13, .inl vt_now)), (ht_told, .inl (cI, 4, .inl vt_told)), (ht_pages, .inl (cI, 4, .inl x5))]) [1, 2, 3, 4, 0, 5] (by decide) rfl)
          exact W.iret (v := (1:Int32)) hx hb hr (fun t eth hW => ⟨⟨(1:Int32), x5, rfl, ⟨(congrArg Prod.fst he).symm, (congrArg Prod.snd he).symm⟩, by rw [eth]; exact hP9, va_K.moved hW.alike hK, hD9⟩, hS.F eth⟩) hS.2.2 dX6_leaves_70
    · replace hf := dg_t c4 hf
      refine lv_bipush (v := -9) hx hb dX6_leaves_21 (by decide) ?_
      have he := Option.some.inj hf
      have hP9 := (hP.sub (ws' := [(ht, .inr (5, [.int vt_clerks, .ref ht_drops, .ref ht_tires, .ref ht_now, .ref ht_told, .ref ht_text, .int vt_length, .ref ht_pages, .int vt_acts, .int vt_next, .ref ht_row, .int vt_found, .ref ht_alike, .ref ht_table, .ref ht_keys, .ref ht_own, .long vt_seed, .ref ht_isKept, .ref ht_kept])), (ht_drops, .inl (cI, 4, .inl vt_drops)), (ht_tires, .inl (cI, 4, .inl vt_tires)), (ht_now, .inl (cI, 13, .inl vt_now)), (ht_told, .inl (cI, 4, .inl vt_told)), (ht_pages, .inl (cI, 4, .inl vt_pages))]) [5, 0, 1, 2, 3, 4] rfl)
      have hD9 := (hD.sub (ws' := [(ht, .inr (5, [.int vt_clerks, .ref ht_drops, .ref ht_tires, .ref ht_now, .ref ht_told, .ref ht_text, .int vt_length, .ref ht_pages, .int vt_acts, .int vt_next, .ref ht_row, .int vt_found, .ref ht_alike, .ref ht_table, .ref ht_keys, .ref ht_own, .long vt_seed, .ref ht_isKept, .ref ht_kept])), (ht_drops, .inl (cI, 4, .inl vt_drops)), (ht_tires, .inl (cI, 4, .inl vt_tires)), (ht_now, .inl (cI, 13, .inl vt_now)), (ht_told, .inl (cI, 4, .inl vt_told)), (ht_pages, .inl (cI, 4, .inl vt_pages))]) [5, 0, 1, 2, 3, 4] (by decide) rfl)
      exact W.iret (v := (-9:Int32)) hx hb hr (fun t eth hW => ⟨⟨(-9:Int32), vt_pages, rfl, ⟨(congrArg Prod.fst he).symm, (congrArg Prod.snd he).symm⟩, by rw [eth]; exact hP9, va_K.moved hW.alike hK, hD9⟩, hS.F eth⟩) hS.2.2 dX6_leaves_23
  · replace hf := dg_t c2 hf
    refine lv_iconst (v := -1) hx hb dX6_leaves_8 (by decide) ?_
    have he := Option.some.inj hf
    have hP9 := (hP.sub (ws' := [(ht, .inr (5, [.int vt_clerks, .ref ht_drops, .ref ht_tires, .ref ht_now, .ref ht_told, .ref ht_text, .int vt_length, .ref ht_pages, .int vt_acts, .int vt_next, .ref ht_row, .int vt_found, .ref ht_alike, .ref ht_table, .ref ht_keys, .ref ht_own, .long vt_seed, .ref ht_isKept, .ref ht_kept])), (ht_drops, .inl (cI, 4, .inl vt_drops)), (ht_tires, .inl (cI, 4, .inl vt_tires)), (ht_now, .inl (cI, 13, .inl vt_now)), (ht_told, .inl (cI, 4, .inl vt_told)), (ht_pages, .inl (cI, 4, .inl vt_pages))]) [5, 0, 1, 2, 3, 4] rfl)
    have hD9 := (hD.sub (ws' := [(ht, .inr (5, [.int vt_clerks, .ref ht_drops, .ref ht_tires, .ref ht_now, .ref ht_told, .ref ht_text, .int vt_length, .ref ht_pages, .int vt_acts, .int vt_next, .ref ht_row, .int vt_found, .ref ht_alike, .ref ht_table, .ref ht_keys, .ref ht_own, .long vt_seed, .ref ht_isKept, .ref ht_kept])), (ht_drops, .inl (cI, 4, .inl vt_drops)), (ht_tires, .inl (cI, 4, .inl vt_tires)), (ht_now, .inl (cI, 13, .inl vt_now)), (ht_told, .inl (cI, 4, .inl vt_told)), (ht_pages, .inl (cI, 4, .inl vt_pages))]) [5, 0, 1, 2, 3, 4] (by decide) rfl)
    exact W.iret (v := (-1:Int32)) hx hb hr (fun t eth hW => ⟨⟨(-1:Int32), vt_pages, rfl, ⟨(congrArg Prod.fst he).symm, (congrArg Prod.snd he).symm⟩, by rw [eth]; exact hP9, va_K.moved hW.alike hK, hD9⟩, hS.F eth⟩) hS.2.2 dX6_leaves_9
theorem hd_X6_same : yX6_same.cls = RX6 ∧ yX6_same.cls ≠ "java/lang/invoke/MethodHandle" ∧ yX6_same.cls ≠ "java/lang/invoke/VarHandle" ∧ (parseMethodDescriptor yX6_same.desc).map (fun d => d.parameters.length) = some 2 := by decide +kernel
abbrev rm_X6_same : Room := { frames := 0, cells := 0, slots := 0, locals := 0 }
abbrev q_X6_same (dC : Nat → ClassId) (dI : Nat → Nat → Nat) (cI cJ cZ : ClassId) (ht ht_drops ht_tires ht_now ht_told ht_text ht_pages ht_row ht_alike ht_table ht_keys ht_own ht_isKept ht_kept : Nat) (vt_clerks : Int32) (vt_length : Int32) (vt_acts : Int32) (vt_next : Int32) (vt_found : Int32) (vt_seed : Int64) (vt_keys : Nat → Int32) (R : Int32) (A : Nat → Prop) : Array Value → State → Outcome → State → Prop := va_Qi (fun (r : Int32) (_ : Unit) => R = r) (fun (u : Unit) (t : State) => va_P (dC, dI) vwCl [(ht, .inr (5, [.int vt_clerks, .ref ht_drops, .ref ht_tires, .ref ht_now, .ref ht_told, .ref ht_text, .int vt_length, .ref ht_pages, .int vt_acts, .int vt_next, .ref ht_row, .int vt_found, .ref ht_alike, .ref ht_table, .ref ht_keys, .ref ht_own, .long vt_seed, .ref ht_isKept, .ref ht_kept])), (ht_keys, .inl (cI, 4096, .inl vt_keys))] t.heap ∧ va_K (dC, dI) vwCl [(cI, .int), (cJ, .long), (cZ, .boolean)] t ∧ va_D A [(ht, .inr (5, [.int vt_clerks, .ref ht_drops, .ref ht_tires, .ref ht_now, .ref ht_told, .ref ht_text, .int vt_length, .ref ht_pages, .int vt_acts, .int vt_next, .ref ht_row, .int vt_found, .ref ht_alike, .ref ht_table, .ref ht_keys, .ref ht_own, .long vt_seed, .ref ht_isKept, .ref ht_kept])), (ht_keys, .inl (cI, 4096, .inl vt_keys))]) A
set_option maxHeartbeats 4000000 in
set_option maxRecDepth 100000 in
theorem k_X6_same (l : Launch) (dC : Nat → ClassId) (dI : Nat → Nat → Nat) (cI cJ cZ : ClassId) (sz : Nat) (ht ht_drops ht_tires ht_now ht_told ht_text ht_pages ht_row ht_alike ht_table ht_keys ht_own ht_isKept ht_kept : Nat) (a1 : Int32) (a2 : Int32) (vt_clerks : Int32) (vt_length : Int32) (vt_acts : Int32) (vt_next : Int32) (vt_found : Int32) (vt_seed : Int64) (vt_keys : Nat → Int32) (N : Nat) (R : Int32) (hf : f_X6_same N a1 a2 vt_keys = some R) : Met l yX6_same wsX6_same (rm_X6_same) (va_Pc [.ref ht, .int a1, .int a2] (fun U => U.heap.size = sz ∧ va_P (dC, dI) vwCl [(ht, .inr (5, [.int vt_clerks, .ref ht_drops, .ref ht_tires, .ref ht_now, .ref ht_told, .ref ht_text, .int vt_length, .ref ht_pages, .int vt_acts, .int vt_next, .ref ht_row, .int vt_found, .ref ht_alike, .ref ht_table, .ref ht_keys, .ref ht_own, .long vt_seed, .ref ht_isKept, .ref ht_kept])), (ht_keys, .inl (cI, 4096, .inl vt_keys))] U.heap ∧ va_K (dC, dI) vwCl [(cI, .int), (cJ, .long), (cZ, .boolean)] U ∧ va_D (fun _ => True) [(ht, .inr (5, [.int vt_clerks, .ref ht_drops, .ref ht_tires, .ref ht_now, .ref ht_told, .ref ht_text, .int vt_length, .ref ht_pages, .int vt_acts, .int vt_next, .ref ht_row, .int vt_found, .ref ht_alike, .ref ht_table, .ref ht_keys, .ref ht_own, .long vt_seed, .ref ht_isKept, .ref ht_kept])), (ht_keys, .inl (cI, 4096, .inl vt_keys))])) (q_X6_same dC dI cI cJ cZ ht ht_drops ht_tires ht_now ht_told ht_text ht_pages ht_row ht_alike ht_table ht_keys ht_own ht_isKept ht_kept vt_clerks vt_length vt_acts vt_next vt_found vt_seed vt_keys R (va_A [(ht, .inr (5, [.int vt_clerks, .ref ht_drops, .ref ht_tires, .ref ht_now, .ref ht_told, .ref ht_text, .int vt_length, .ref ht_pages, .int vt_acts, .int vt_next, .ref ht_row, .int vt_found, .ref ht_alike, .ref ht_table, .ref ht_keys, .ref ht_own, .long vt_seed, .ref ht_isKept, .ref ht_kept])), (ht_keys, .inl (cI, 4096, .inl vt_keys))] sz)) 0 0 (va_A [(ht, .inr (5, [.int vt_clerks, .ref ht_drops, .ref ht_tires, .ref ht_now, .ref ht_told, .ref ht_text, .int vt_length, .ref ht_pages, .int vt_acts, .int vt_next, .ref ht_row, .int vt_found, .ref ht_alike, .ref ht_table, .ref ht_keys, .ref ht_own, .long vt_seed, .ref ht_isKept, .ref ht_kept])), (ht_keys, .inl (cI, 4096, .inl vt_keys))] sz) := by
  refine Met.ofW (cc := cX6_same) (maxL := 5) (ret := (some .boolean)) (by decide) rfl ?_
  intro p e s m args below meth c s₁ B hml hv
  obtain ⟨rfl, hsz, hP, hK, hD0⟩ := hv
  have hx := B.exec
  have hb := B.bytes
  have hr := B.returns
  have hts := atoms_spec (ws := wsX6_same) B.pre
  have hown : s.vm.findClass RX6 = some m.cls := findClass_of_methodNamed B.named
  have hlocks := B.notSynchronized
  clear B
  subst hsz
  have hw0 := hts (.fieldLink RX6 37 "ShorthandCourtModel" "keys" "[I") (by decide +kernel)
  have hinX6 : ∀ w ∈ u_ws RX6 TX6 19, w ∈ wsX6_same := by decide +kernel
  have hD := hD0.self (sz := s.heap.size)
  clear hD0
  generalize hAe : va_A [(ht, .inr (5, [.int vt_clerks, .ref ht_drops, .ref ht_tires, .ref ht_now, .ref ht_told, .ref ht_text, .int vt_length, .ref ht_pages, .int vt_acts, .int vt_next, .ref ht_row, .int vt_found, .ref ht_alike, .ref ht_table, .ref ht_keys, .ref ht_own, .long vt_seed, .ref ht_isKept, .ref ht_kept])), (ht_keys, .inl (cI, 4096, .inl vt_keys))] s.heap.size = A at hD ⊢
  have hA : ∀ q : Nat, s.heap.size ≤ q → A q := fun q h => by rw [← hAe]; exact Or.inr h
  clear hAe
  have hS : va_S A s.heap s.heap [] := va_S.rf
  have hl := lv_entry ([.ref ht, .int a1, .int a2]) (n := 5) (Nat.le_of_ble_eq_true rfl)
  rw [lg_entry_eq]
  generalize (lg_sl ([.ref ht, .int a1, .int a2]) ++ List.replicate (5 - (lg_sl ([.ref ht, .int a1, .int a2])).length) Slot.unset).toArray = ls at hl ⊢
  have hl : lv_has ls 5 [(0, .ref ht), (1, .int a1), (2, .int a2)] := hl
  unfold f_X6_same at hf
  refine lv_iconst (v := 1) hx hb dX6_same_0 (by decide) ?_
  refine lv_istore_n (lv' := [(3, .int (1:Int32)), (0, .ref ht), (1, .int a1), (2, .int a2)]) hx hb dX6_same_1 rfl hl (by decide) rfl (fun ls hl => ?_)
  refine lv_iconst (v := 0) hx hb dX6_same_2 (by decide) ?_
  refine lv_istore (lv' := [(4, .int (0:Int32)), (3, .int (1:Int32)), (0, .ref ht), (1, .int a1), (2, .int a2)]) hx hb dX6_same_3 hl (by decide) rfl (fun ls hl => ?_)
  have ex5 : ∀ (z3_5 : Int32) (z4_5 : Int32) (H : Heap) (locs : List Loc) (ls : Array Slot), va_P (dC, dI) vwCl [(ht, .inr (5, [.int vt_clerks, .ref ht_drops, .ref ht_tires, .ref ht_now, .ref ht_told, .ref ht_text, .int vt_length, .ref ht_pages, .int vt_acts, .int vt_next, .ref ht_row, .int vt_found, .ref ht_alike, .ref ht_table, .ref ht_keys, .ref ht_own, .long vt_seed, .ref ht_isKept, .ref ht_kept])), (ht_keys, .inl (cI, 4096, .inl vt_keys))] H → va_D A [(ht, .inr (5, [.int vt_clerks, .ref ht_drops, .ref ht_tires, .ref ht_now, .ref ht_told, .ref ht_text, .int vt_length, .ref ht_pages, .int vt_acts, .int vt_next, .ref ht_row, .int vt_found, .ref ht_alike, .ref ht_table, .ref ht_keys, .ref ht_own, .long vt_seed, .ref ht_isKept, .ref ht_kept])), (ht_keys, .inl (cI, 4096, .inl vt_keys))] → va_S A s.heap H locs → lv_has ls 5 [(4, .int z4_5), (3, .int z3_5), (0, .ref ht), (1, .int a1), (2, .int a2)] → (gZ z3_5 (some z3_5)) = some R → W p l e (rm_X6_same) s m ([.ref ht, .int a1, .int a2] : List Value).toArray below meth c H locs 0 0 (MQ below (q_X6_same dC dI cI cJ cZ ht ht_drops ht_tires ht_now ht_told ht_text ht_pages ht_row ht_alike ht_table ht_keys ht_own ht_isKept ht_kept vt_clerks vt_length vt_acts vt_next vt_found vt_seed vt_keys R A) ([.ref ht, .int a1, .int a2] : List Value).toArray s 0 0 A) (F0 m 52 ls []) := by
    intro z3_5 z4_5 H locs ls hP hD hS hl hf
    refine lv_iload_n hx hb dX6_same_52 rfl (lv_at hl 1 rfl) ?_
    obtain ⟨hz1, hf⟩ := dg_z hf
    have he := Option.some.inj hf
    have hP9 := hP
    have hD9 := hD
    exact W.zret (v := z3_5) (ty := .boolean) hx hb hr hz1 (fun t eth hW => ⟨⟨z3_5, (), rfl, he.symm, by rw [eth]; exact hP9, va_K.moved hW.alike hK, hD9⟩, hS.F eth⟩) hS.2.2 dX6_same_53
  have lp5 : ∀ (n5 : Nat) (y3_5 : Int32) (y4_5 : Int32) (H : Heap) (locs : List Loc) (ls : Array Slot), va_P (dC, dI) vwCl [(ht, .inr (5, [.int vt_clerks, .ref ht_drops, .ref ht_tires, .ref ht_now, .ref ht_told, .ref ht_text, .int vt_length, .ref ht_pages, .int vt_acts, .int vt_next, .ref ht_row, .int vt_found, .ref ht_alike, .ref ht_table, .ref ht_keys, .ref ht_own, .long vt_seed, .ref ht_isKept, .ref ht_kept])), (ht_keys, .inl (cI, 4096, .inl vt_keys))] H → va_D A [(ht, .inr (5, [.int vt_clerks, .ref ht_drops, .ref ht_tires, .ref ht_now, .ref ht_told, .ref ht_text, .int vt_length, .ref ht_pages, .int vt_acts, .int vt_next, .ref ht_row, .int vt_found, .ref ht_alike, .ref ht_table, .ref ht_keys, .ref ht_own, .long vt_seed, .ref ht_isKept, .ref ht_kept])), (ht_keys, .inl (cI, 4096, .inl vt_keys))] → va_S A s.heap H locs → lv_has ls 5 [(4, .int y4_5), (3, .int y3_5), (0, .ref ht), (1, .int a1), (2, .int a2)] → f_X6_same_5 N a1 a2 vt_keys (fun z3_5 z4_5 => gZ z3_5 (some z3_5)) n5 y3_5 y4_5 = some R → W p l e (rm_X6_same) s m ([.ref ht, .int a1, .int a2] : List Value).toArray below meth c H locs 0 0 (MQ below (q_X6_same dC dI cI cJ cZ ht ht_drops ht_tires ht_now ht_told ht_text ht_pages ht_row ht_alike ht_table ht_keys ht_own ht_isKept ht_kept vt_clerks vt_length vt_acts vt_next vt_found vt_seed vt_keys R A) ([.ref ht, .int a1, .int a2] : List Value).toArray s 0 0 A) (F0 m 5 ls []) := by
    intro n5
    induction n5 with
    | zero => intro y3_5 y4_5 H locs ls hP hD hS hl hf; rw [f_X6_same_5] at hf; cases hf
    | succ n5 ih5 =>
      intro y3_5 y4_5 H locs ls hP hD hS hl hf
      rw [f_X6_same_5] at hf
      refine lv_iload hx hb dX6_same_5 (lv_at hl 0 rfl) ?_
      refine lv_iconst (v := 4) hx hb dX6_same_7 (by decide) ?_
      refine lv_icmp_ge (tgt := 52) hx hb dX6_same_8 (by decide) (fun c2 => ?_) (fun c2 => ?_)
      · replace hf := dg_t c2 hf
        exact ex5 y3_5 y4_5 _ _ _ hP hD hS (lv_sub hl [0, 1, 2, 3, 4] rfl) hf
      · replace hf := dg_f c2 hf
        refine lv_iload_n hx hb dX6_same_11 rfl (lv_at hl 1 rfl) ?_
        refine lv_if_eq (tgt := 44) hx hb dX6_same_12 (by decide) (fun c3 => ?_) (fun c3 => ?_)
        · replace hf := dg_t c3 hf
          refine lv_iconst (v := 0) hx hb dX6_same_44 (by decide) ?_
          refine lv_istore_n (lv' := [(3, .int (0:Int32)), (4, .int y4_5), (0, .ref ht), (1, .int a1), (2, .int a2)]) hx hb dX6_same_45 rfl hl (by decide) rfl (fun ls hl => ?_)
          refine lv_iinc (v := (y4_5 + (1:Int32))) (lv' := [(4, .int (y4_5 + (1:Int32))), (3, .int (0:Int32)), (0, .ref ht), (1, .int a1), (2, .int a2)]) hx hb dX6_same_46 hl (k := 1) rfl (by first | rfl | decide) (by decide) rfl (fun ls hl => ?_)
          refine lv_goto (tgt := 5) hx hb dX6_same_49 (by decide) ?_
          exact ih5 (0:Int32) (y4_5 + (1:Int32)) _ _ _ hP hD hS (lv_sub hl [0, 1, 2, 3, 4] rfl) hf
        · replace hf := dg_f c3 hf
          refine lv_aload_n hx hb dX6_same_15 rfl (lv_at hl 2 rfl) ?_
          refine va_get (D := (dC, dI)) (ci := 5) (v := .ref ht_keys) (C := RX6) (T := TX6) (N := 19) hx hb hts hinX6 hown hK hP 0 rfl rfl 14 (by decide) hw0 (fun _ h9 => h9) rfl dX6_same_16 ?_
          refine lv_iconst (v := 4) hx hb dX6_same_19 (by decide) ?_
          refine lv_iload_n hx hb dX6_same_20 rfl (lv_at hl 3 rfl) ?_
          refine lv_imul hx hb dX6_same_21 ?_
          refine lv_iload hx hb dX6_same_22 (lv_at hl 0 rfl) ?_
          refine lv_iadd hx hb dX6_same_24 ?_
          obtain ⟨hi4, hf⟩ := dg_ix hf
          refine va_iald hx hb hK hP 1 0 rfl rfl hi4 dX6_same_25 ?_
          refine lv_aload_n hx hb dX6_same_26 rfl (lv_at hl 2 rfl) ?_
          refine va_get (D := (dC, dI)) (ci := 5) (v := .ref ht_keys) (C := RX6) (T := TX6) (N := 19) hx hb hts hinX6 hown hK hP 0 rfl rfl 14 (by decide) hw0 (fun _ h9 => h9) rfl dX6_same_27 ?_
          refine lv_iconst (v := 4) hx hb dX6_same_30 (by decide) ?_
          refine lv_iload_n hx hb dX6_same_31 rfl (lv_at hl 4 rfl) ?_
          refine lv_imul hx hb dX6_same_32 ?_
          refine lv_iload hx hb dX6_same_33 (lv_at hl 0 rfl) ?_
          refine lv_iadd hx hb dX6_same_35 ?_
          obtain ⟨hi5, hf⟩ := dg_ix hf
          refine va_iald hx hb hK hP 1 0 rfl rfl hi5 dX6_same_36 ?_
          refine lv_icmp_ne (tgt := 44) hx hb dX6_same_37 (by decide) (fun c6 => ?_) (fun c6 => ?_)
          · replace hf := dg_f c6 hf
            refine lv_iconst (v := 0) hx hb dX6_same_44 (by decide) ?_
            refine lv_istore_n (lv' := [(3, .int (0:Int32)), (4, .int y4_5), (0, .ref ht), (1, .int a1), (2, .int a2)]) hx hb dX6_same_45 rfl hl (by decide) rfl (fun ls hl => ?_)
            refine lv_iinc (v := (y4_5 + (1:Int32))) (lv' := [(4, .int (y4_5 + (1:Int32))), (3, .int (0:Int32)), (0, .ref ht), (1, .int a1), (2, .int a2)]) hx hb dX6_same_46 hl (k := 1) rfl (by first | rfl | decide) (by decide) rfl (fun ls hl => ?_)
            refine lv_goto (tgt := 5) hx hb dX6_same_49 (by decide) ?_
            exact ih5 (0:Int32) (y4_5 + (1:Int32)) _ _ _ hP hD hS (lv_sub hl [0, 1, 2, 3, 4] rfl) hf
          · replace hf := dg_t c6 hf
            refine lv_iconst (v := 1) hx hb dX6_same_40 (by decide) ?_
            refine lv_goto (tgt := 45) hx hb dX6_same_41 (by decide) ?_
            refine lv_istore_n (lv' := [(3, .int (1:Int32)), (4, .int y4_5), (0, .ref ht), (1, .int a1), (2, .int a2)]) hx hb dX6_same_45 rfl hl (by decide) rfl (fun ls hl => ?_)
            refine lv_iinc (v := (y4_5 + (1:Int32))) (lv' := [(4, .int (y4_5 + (1:Int32))), (3, .int (1:Int32)), (0, .ref ht), (1, .int a1), (2, .int a2)]) hx hb dX6_same_46 hl (k := 1) rfl (by first | rfl | decide) (by decide) rfl (fun ls hl => ?_)
            refine lv_goto (tgt := 5) hx hb dX6_same_49 (by decide) ?_
            exact ih5 (1:Int32) (y4_5 + (1:Int32)) _ _ _ hP hD hS (lv_sub hl [0, 1, 2, 3, 4] rfl) hf
  exact lp5 N (1:Int32) (0:Int32) _ _ _ hP hD hS hl hf
