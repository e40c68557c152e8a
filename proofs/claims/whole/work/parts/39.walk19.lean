theorem hd_X6_toRead : yX6_toRead.cls = RX6 ∧ yX6_toRead.cls ≠ "java/lang/invoke/MethodHandle" ∧ yX6_toRead.cls ≠ "java/lang/invoke/VarHandle" ∧ (parseMethodDescriptor yX6_toRead.desc).map (fun d => d.parameters.length) = some 1 := by decide +kernel
abbrev rm_X6_toRead : Room := { frames := 6, cells := 0, slots := 0, locals := 140 }
abbrev q_X6_toRead (dC : Nat → ClassId) (dI : Nat → Nat → Nat) (cI cJ cZ : ClassId) (ht ht_drops ht_tires ht_now ht_told ht_text ht_pages ht_row ht_alike ht_table ht_keys ht_own ht_isKept ht_kept : Nat) (vt_clerks : Int32) (vt_length : Int32) (vt_acts : Int32) (vt_next : Int32) (vt_found : Int32) (vt_seed : Int64) (vt_drops : Nat → Int32) (vt_tires : Nat → Int32) (vt_now : Nat → Int32) (vt_told : Nat → Int32) (R : Int32 × (Nat → Int32) × (Nat → Int32)) (A : Nat → Prop) : Array Value → State → Outcome → State → Prop := va_Qi (fun (r : Int32) (u : (Nat → Int32) × (Nat → Int32)) => R.1 = r ∧ R.2 = u) (fun (u : (Nat → Int32) × (Nat → Int32)) (t : State) => va_P (dC, dI) vwCl [(ht, .inr (5, [.int vt_clerks, .ref ht_drops, .ref ht_tires, .ref ht_now, .ref ht_told, .ref ht_text, .int vt_length, .ref ht_pages, .int vt_acts, .int vt_next, .ref ht_row, .int vt_found, .ref ht_alike, .ref ht_table, .ref ht_keys, .ref ht_own, .long vt_seed, .ref ht_isKept, .ref ht_kept])), (ht_drops, .inl (cI, 4, .inl vt_drops)), (ht_tires, .inl (cI, 4, .inl vt_tires)), (ht_now, .inl (cI, 13, .inl vt_now)), (ht_told, .inl (cI, 4, .inl vt_told)), (ht_pages, .inl (cI, 4, .inl u.1)), (ht_alike, .inl (cI, 28672, .inl u.2))] t.heap ∧ va_K (dC, dI) vwCl [(cI, .int), (cJ, .long), (cZ, .boolean)] t ∧ va_D A [(ht, .inr (5, [.int vt_clerks, .ref ht_drops, .ref ht_tires, .ref ht_now, .ref ht_told, .ref ht_text, .int vt_length, .ref ht_pages, .int vt_acts, .int vt_next, .ref ht_row, .int vt_found, .ref ht_alike, .ref ht_table, .ref ht_keys, .ref ht_own, .long vt_seed, .ref ht_isKept, .ref ht_kept])), (ht_drops, .inl (cI, 4, .inl vt_drops)), (ht_tires, .inl (cI, 4, .inl vt_tires)), (ht_now, .inl (cI, 13, .inl vt_now)), (ht_told, .inl (cI, 4, .inl vt_told)), (ht_pages, .inl (cI, 4, .inl u.1)), (ht_alike, .inl (cI, 28672, .inl u.2))]) A
set_option maxHeartbeats 4000000 in
set_option maxRecDepth 100000 in
theorem k_X6_toRead (l : Launch) (dC : Nat → ClassId) (dI : Nat → Nat → Nat) (cI cJ cZ : ClassId) (sz : Nat) (ht ht_drops ht_tires ht_now ht_told ht_text ht_pages ht_row ht_alike ht_table ht_keys ht_own ht_isKept ht_kept : Nat) (a1 : Int32) (vt_clerks : Int32) (vt_length : Int32) (vt_acts : Int32) (vt_next : Int32) (vt_found : Int32) (vt_seed : Int64) (vt_drops : Nat → Int32) (vt_tires : Nat → Int32) (vt_now : Nat → Int32) (vt_told : Nat → Int32) (vt_pages : Nat → Int32) (vt_alike : Nat → Int32) (N : Nat) (R : Int32 × (Nat → Int32) × (Nat → Int32)) (hf : f_X6_toRead N a1 vt_clerks vt_drops vt_tires vt_now vt_told vt_pages vt_alike = some R) : Met l yX6_toRead wsX6_toRead (rm_X6_toRead) (va_Pc [.ref ht, .int a1] (fun U => U.heap.size = sz ∧ va_P (dC, dI) vwCl [(ht, .inr (5, [.int vt_clerks, .ref ht_drops, .ref ht_tires, .ref ht_now, .ref ht_told, .ref ht_text, .int vt_length, .ref ht_pages, .int vt_acts, .int vt_next, .ref ht_row, .int vt_found, .ref ht_alike, .ref ht_table, .ref ht_keys, .ref ht_own, .long vt_seed, .ref ht_isKept, .ref ht_kept])), (ht_drops, .inl (cI, 4, .inl vt_drops)), (ht_tires, .inl (cI, 4, .inl vt_tires)), (ht_now, .inl (cI, 13, .inl vt_now)), (ht_told, .inl (cI, 4, .inl vt_told)), (ht_pages, .inl (cI, 4, .inl vt_pages)), (ht_alike, .inl (cI, 28672, .inl vt_alike))] U.heap ∧ va_K (dC, dI) vwCl [(cI, .int), (cJ, .long), (cZ, .boolean)] U ∧ va_D (fun _ => True) [(ht, .inr (5, [.int vt_clerks, .ref ht_drops, .ref ht_tires, .ref ht_now, .ref ht_told, .ref ht_text, .int vt_length, .ref ht_pages, .int vt_acts, .int vt_next, .ref ht_row, .int vt_found, .ref ht_alike, .ref ht_table, .ref ht_keys, .ref ht_own, .long vt_seed, .ref ht_isKept, .ref ht_kept])), (ht_drops, .inl (cI, 4, .inl vt_drops)), (ht_tires, .inl (cI, 4, .inl vt_tires)), (ht_now, .inl (cI, 13, .inl vt_now)), (ht_told, .inl (cI, 4, .inl vt_told)), (ht_pages, .inl (cI, 4, .inl vt_pages)), (ht_alike, .inl (cI, 28672, .inl vt_alike))])) (q_X6_toRead dC dI cI cJ cZ ht ht_drops ht_tires ht_now ht_told ht_text ht_pages ht_row ht_alike ht_table ht_keys ht_own ht_isKept ht_kept vt_clerks vt_length vt_acts vt_next vt_found vt_seed vt_drops vt_tires vt_now vt_told R (va_A [(ht, .inr (5, [.int vt_clerks, .ref ht_drops, .ref ht_tires, .ref ht_now, .ref ht_told, .ref ht_text, .int vt_length, .ref ht_pages, .int vt_acts, .int vt_next, .ref ht_row, .int vt_found, .ref ht_alike, .ref ht_table, .ref ht_keys, .ref ht_own, .long vt_seed, .ref ht_isKept, .ref ht_kept])), (ht_drops, .inl (cI, 4, .inl vt_drops)), (ht_tires, .inl (cI, 4, .inl vt_tires)), (ht_now, .inl (cI, 13, .inl vt_now)), (ht_told, .inl (cI, 4, .inl vt_told)), (ht_pages, .inl (cI, 4, .inl vt_pages)), (ht_alike, .inl (cI, 28672, .inl vt_alike))] sz)) 0 0 (va_A [(ht, .inr (5, [.int vt_clerks, .ref ht_drops, .ref ht_tires, .ref ht_now, .ref ht_told, .ref ht_text, .int vt_length, .ref ht_pages, .int vt_acts, .int vt_next, .ref ht_row, .int vt_found, .ref ht_alike, .ref ht_table, .ref ht_keys, .ref ht_own, .long vt_seed, .ref ht_isKept, .ref ht_kept])), (ht_drops, .inl (cI, 4, .inl vt_drops)), (ht_tires, .inl (cI, 4, .inl vt_tires)), (ht_now, .inl (cI, 13, .inl vt_now)), (ht_told, .inl (cI, 4, .inl vt_told)), (ht_pages, .inl (cI, 4, .inl vt_pages)), (ht_alike, .inl (cI, 28672, .inl vt_alike))] sz) := by
  refine Met.ofW (cc := cX6_toRead) (maxL := 6) (ret := (some .int)) (by decide) rfl ?_
  intro p e s m args below meth c s₁ B hml hv
  obtain ⟨rfl, hsz, hP, hK, hD0⟩ := hv
  have hx := B.exec
  have hb := B.bytes
  have hr := B.returns
  have hts := atoms_spec (ws := wsX6_toRead) B.pre
  have hown : s.vm.findClass RX6 = some m.cls := findClass_of_methodNamed B.named
  have hlocks := B.notSynchronized
  clear B
  subst hsz
  have hw0 := hts (.constantLong RX6 124 (5)) (by decide +kernel)
  have hw1 := hts (.fieldLink RX6 79 "ShorthandCourtModel" "clerks" "I") (by decide +kernel)
  have hw2 := hts (.fieldLink RX6 19 "ShorthandCourtModel" "told" "[I") (by decide +kernel)
  have hinX6 : ∀ w ∈ u_ws RX6 TX6 19, w ∈ wsX6_toRead := by decide +kernel
  have hD := hD0.self (sz := s.heap.size)
  clear hD0
  generalize hAe : va_A [(ht, .inr (5, [.int vt_clerks, .ref ht_drops, .ref ht_tires, .ref ht_now, .ref ht_told, .ref ht_text, .int vt_length, .ref ht_pages, .int vt_acts, .int vt_next, .ref ht_row, .int vt_found, .ref ht_alike, .ref ht_table, .ref ht_keys, .ref ht_own, .long vt_seed, .ref ht_isKept, .ref ht_kept])), (ht_drops, .inl (cI, 4, .inl vt_drops)), (ht_tires, .inl (cI, 4, .inl vt_tires)), (ht_now, .inl (cI, 13, .inl vt_now)), (ht_told, .inl (cI, 4, .inl vt_told)), (ht_pages, .inl (cI, 4, .inl vt_pages)), (ht_alike, .inl (cI, 28672, .inl vt_alike))] s.heap.size = A at hD ⊢
  have hA : ∀ q : Nat, s.heap.size ≤ q → A q := fun q h => by rw [← hAe]; exact Or.inr h
  clear hAe
  have hS : va_S A s.heap s.heap [] := va_S.rf
  have hl := lv_entry ([.ref ht, .int a1]) (n := 6) (Nat.le_of_ble_eq_true rfl)
  rw [lg_entry_eq]
  generalize (lg_sl ([.ref ht, .int a1]) ++ List.replicate (6 - (lg_sl ([.ref ht, .int a1])).length) Slot.unset).toArray = ls at hl ⊢
  have hl : lv_has ls 6 [(0, .ref ht), (1, .int a1)] := hl
  unfold f_X6_toRead at hf
  refine lv_iload_n hx hb dX6_toRead_0 rfl (lv_at hl 1 rfl) ?_
  refine lv_i2l hx hb dX6_toRead_1 rfl ?_
  refine lv_lconst (v := 0) hx hb dX6_toRead_2 (by decide) ?_
  refine lv_ldc2 (v := 5) hx hb hown hw0 dX6_toRead_3 ?_
  obtain ⟨x1, hx1, hf⟩ := dg_bind hf
  have hPc : va_P (dC, dI) vwCl [] s.heap := hP.sub [] rfl
  have hDc : va_D A [] := hD.sub [] (by decide) rfl
  have hFc := va_free (wc := []) hD hS hA [] rfl
  refine va_calli (va_runS (As := [.long a1.toInt64, .long (0:Int64), .long (5:Int64)]) (rest := []) ⟨hx, hb, hml, hown, hts⟩ (k_X6_in l dC dI cI cJ cZ s.heap.size a1.toInt64 (0:Int64) (5:Int64) N x1 hx1) (va_cwS 3 hts gX6_toRead_X6_in rfl rfl rfl hd_X6_in ⟨Nat.le_of_ble_eq_true rfl, Nat.le_of_ble_eq_true rfl⟩) ⟨blind_pc, pre_pc hPc hK hDc⟩ rfl rfl hl.1 rfl (lv_room (Nat.le_of_ble_eq_true rfl)) dX6_toRead_6 ⟨Nat.zero_le _, Nat.zero_le _⟩) hS (fun q _ h => hFc q h) hFc (fun r u t H1 locs eth hvm hw hB hz1 hk1 hS => ?_)
  obtain ⟨hP1, hK1, hD1⟩ := hB
  rw [eth] at hP1
  subst hw
  obtain ⟨hP, hD⟩ := va_join (wr := [(ht, .inr (5, [.int vt_clerks, .ref ht_drops, .ref ht_tires, .ref ht_now, .ref ht_told, .ref ht_text, .int vt_length, .ref ht_pages, .int vt_acts, .int vt_next, .ref ht_row, .int vt_found, .ref ht_alike, .ref ht_table, .ref ht_keys, .ref ht_own, .long vt_seed, .ref ht_isKept, .ref ht_kept])), (ht_drops, .inl (cI, 4, .inl vt_drops)), (ht_tires, .inl (cI, 4, .inl vt_tires)), (ht_now, .inl (cI, 13, .inl vt_now)), (ht_told, .inl (cI, 4, .inl vt_told)), (ht_pages, .inl (cI, 4, .inl vt_pages)), (ht_alike, .inl (cI, 28672, .inl vt_alike))]) (w1 := []) hP hD [] [0, 1, 2, 3, 4, 5, 6] rfl rfl (by decide) (by decide) hk1 hFc hP1 hD1
  clear hP1 hK1 hD1 hPc hDc hFc hk1 hz1 hvm eth
  generalize H1 = H at hP hS ⊢
  have hP : va_P (dC, dI) vwCl [(ht, .inr (5, [.int vt_clerks, .ref ht_drops, .ref ht_tires, .ref ht_now, .ref ht_told, .ref ht_text, .int vt_length, .ref ht_pages, .int vt_acts, .int vt_next, .ref ht_row, .int vt_found, .ref ht_alike, .ref ht_table, .ref ht_keys, .ref ht_own, .long vt_seed, .ref ht_isKept, .ref ht_kept])), (ht_drops, .inl (cI, 4, .inl vt_drops)), (ht_tires, .inl (cI, 4, .inl vt_tires)), (ht_now, .inl (cI, 13, .inl vt_now)), (ht_told, .inl (cI, 4, .inl vt_told)), (ht_pages, .inl (cI, 4, .inl vt_pages)), (ht_alike, .inl (cI, 28672, .inl vt_alike))] H := hP
  have hD : va_D A [(ht, .inr (5, [.int vt_clerks, .ref ht_drops, .ref ht_tires, .ref ht_now, .ref ht_told, .ref ht_text, .int vt_length, .ref ht_pages, .int vt_acts, .int vt_next, .ref ht_row, .int vt_found, .ref ht_alike, .ref ht_table, .ref ht_keys, .ref ht_own, .long vt_seed, .ref ht_isKept, .ref ht_kept])), (ht_drops, .inl (cI, 4, .inl vt_drops)), (ht_tires, .inl (cI, 4, .inl vt_tires)), (ht_now, .inl (cI, 13, .inl vt_now)), (ht_told, .inl (cI, 4, .inl vt_told)), (ht_pages, .inl (cI, 4, .inl vt_pages)), (ht_alike, .inl (cI, 28672, .inl vt_alike))] := hD
  refine lv_if_ne (tgt := 15) hx hb dX6_toRead_9 (by decide) (fun c2 => ?_) (fun c2 => ?_)
  · replace hf := dg_f c2 hf
    refine lv_aload_n hx hb dX6_toRead_15 rfl (lv_at hl 0 rfl) ?_
    refine lv_iload_n hx hb dX6_toRead_16 rfl (lv_at hl 1 rfl) ?_
    obtain ⟨x3, hx3, hf⟩ := dg_bind hf
    have hPc : va_P (dC, dI) vwCl [(ht, .inr (5, [.int vt_clerks, .ref ht_drops, .ref ht_tires, .ref ht_now, .ref ht_told, .ref ht_text, .int vt_length, .ref ht_pages, .int vt_acts, .int vt_next, .ref ht_row, .int vt_found, .ref ht_alike, .ref ht_table, .ref ht_keys, .ref ht_own, .long vt_seed, .ref ht_isKept, .ref ht_kept])), (ht_drops, .inl (cI, 4, .inl vt_drops)), (ht_tires, .inl (cI, 4, .inl vt_tires)), (ht_now, .inl (cI, 13, .inl vt_now)), (ht_told, .inl (cI, 4, .inl vt_told)), (ht_pages, .inl (cI, 4, .inl vt_pages))] H := hP.sub [0, 1, 2, 3, 4, 5] rfl
    have hDc : va_D A [(ht, .inr (5, [.int vt_clerks, .ref ht_drops, .ref ht_tires, .ref ht_now, .ref ht_told, .ref ht_text, .int vt_length, .ref ht_pages, .int vt_acts, .int vt_next, .ref ht_row, .int vt_found, .ref ht_alike, .ref ht_table, .ref ht_keys, .ref ht_own, .long vt_seed, .ref ht_isKept, .ref ht_kept])), (ht_drops, .inl (cI, 4, .inl vt_drops)), (ht_tires, .inl (cI, 4, .inl vt_tires)), (ht_now, .inl (cI, 13, .inl vt_now)), (ht_told, .inl (cI, 4, .inl vt_told)), (ht_pages, .inl (cI, 4, .inl vt_pages))] := hD.sub [0, 1, 2, 3, 4, 5] (by decide) rfl
    have hFc := va_free (wc := [(ht, .inr (5, [.int vt_clerks, .ref ht_drops, .ref ht_tires, .ref ht_now, .ref ht_told, .ref ht_text, .int vt_length, .ref ht_pages, .int vt_acts, .int vt_next, .ref ht_row, .int vt_found, .ref ht_alike, .ref ht_table, .ref ht_keys, .ref ht_own, .long vt_seed, .ref ht_isKept, .ref ht_kept])), (ht_drops, .inl (cI, 4, .inl vt_drops)), (ht_tires, .inl (cI, 4, .inl vt_tires)), (ht_now, .inl (cI, 13, .inl vt_now)), (ht_told, .inl (cI, 4, .inl vt_told)), (ht_pages, .inl (cI, 4, .inl vt_pages))]) hD hS hA [0, 1, 2, 3, 4, 5] rfl
    refine va_calli (va_runV (As := [.int a1]) (rest := []) ⟨hx, hb, hml, hown, hts⟩ (k_X6_leastFit l dC dI cI cJ cZ H.size ht ht_drops ht_tires ht_now ht_told ht_text ht_pages ht_row ht_alike ht_table ht_keys ht_own ht_isKept ht_kept a1 vt_clerks vt_length vt_acts vt_next vt_found vt_seed vt_drops vt_tires vt_now vt_told vt_pages N x3 hx3) (cwV 1 hts gX6_toRead_X6_leastFit rfl rfl rfl hd_X6_leastFit ⟨Nat.le_of_ble_eq_true rfl, Nat.le_of_ble_eq_true rfl⟩) ⟨blind_pc, va_recv hK hPc (ci := 5) (q0 := 0) rfl rfl, pre_pc hPc hK hDc⟩ rfl rfl hl.1 rfl (lv_room (Nat.le_of_ble_eq_true rfl)) dX6_toRead_17 ⟨Nat.zero_le _, Nat.zero_le _⟩) hS (fun q _ h => hFc q h) hFc (fun r u t H1 locs eth hvm hw hB hz1 hk1 hS => ?_)
    obtain ⟨hP1, hK1, hD1⟩ := hB
    rw [eth] at hP1
    obtain ⟨hw, hw2⟩ := hw
    subst hw; subst hw2
    obtain ⟨hP, hD⟩ := va_join (wr := [(ht_alike, .inl (cI, 28672, .inl vt_alike))]) (w1 := [(ht, .inr (5, [.int vt_clerks, .ref ht_drops, .ref ht_tires, .ref ht_now, .ref ht_told, .ref ht_text, .int vt_length, .ref ht_pages, .int vt_acts, .int vt_next, .ref ht_row, .int vt_found, .ref ht_alike, .ref ht_table, .ref ht_keys, .ref ht_own, .long vt_seed, .ref ht_isKept, .ref ht_kept])), (ht_drops, .inl (cI, 4, .inl vt_drops)), (ht_tires, .inl (cI, 4, .inl vt_tires)), (ht_now, .inl (cI, 13, .inl vt_now)), (ht_told, .inl (cI, 4, .inl vt_told)), (ht_pages, .inl (cI, 4, .inl x3.2))]) hP hD [0, 1, 2, 3, 4, 5] [6] rfl rfl (by decide) (by decide) hk1 hFc hP1 hD1
    clear hP1 hK1 hD1 hPc hDc hFc hk1 hz1 hvm eth
    generalize H1 = H at hP hS ⊢
    have hP : va_P (dC, dI) vwCl [(ht_alike, .inl (cI, 28672, .inl vt_alike)), (ht, .inr (5, [.int vt_clerks, .ref ht_drops, .ref ht_tires, .ref ht_now, .ref ht_told, .ref ht_text, .int vt_length, .ref ht_pages, .int vt_acts, .int vt_next, .ref ht_row, .int vt_found, .ref ht_alike, .ref ht_table, .ref ht_keys, .ref ht_own, .long vt_seed, .ref ht_isKept, .ref ht_kept])), (ht_drops, .inl (cI, 4, .inl vt_drops)), (ht_tires, .inl (cI, 4, .inl vt_tires)), (ht_now, .inl (cI, 13, .inl vt_now)), (ht_told, .inl (cI, 4, .inl vt_told)), (ht_pages, .inl (cI, 4, .inl x3.2))] H := hP
    have hD : va_D A [(ht_alike, .inl (cI, 28672, .inl vt_alike)), (ht, .inr (5, [.int vt_clerks, .ref ht_drops, .ref ht_tires, .ref ht_now, .ref ht_told, .ref ht_text, .int vt_length, .ref ht_pages, .int vt_acts, .int vt_next, .ref ht_row, .int vt_found, .ref ht_alike, .ref ht_table, .ref ht_keys, .ref ht_own, .long vt_seed, .ref ht_isKept, .ref ht_kept])), (ht_drops, .inl (cI, 4, .inl vt_drops)), (ht_tires, .inl (cI, 4, .inl vt_tires)), (ht_now, .inl (cI, 13, .inl vt_now)), (ht_told, .inl (cI, 4, .inl vt_told)), (ht_pages, .inl (cI, 4, .inl x3.2))] := hD
    refine lv_bipush (v := -9) hx hb dX6_toRead_20 (by decide) ?_
    refine lv_icmp_ne (tgt := 28) hx hb dX6_toRead_22 (by decide) (fun c4 => ?_) (fun c4 => ?_)
    · replace hf := dg_f c4 hf
      refine lv_bipush (v := -9) hx hb dX6_toRead_28 (by decide) ?_
      refine lv_istore_n (lv' := [(2, .int (-9:Int32)), (0, .ref ht), (1, .int a1)]) hx hb dX6_toRead_30 rfl hl (by decide) rfl (fun ls hl => ?_)
      refine lv_iconst (v := 0) hx hb dX6_toRead_31 (by decide) ?_
      refine lv_istore_n (lv' := [(3, .int (0:Int32)), (2, .int (-9:Int32)), (0, .ref ht), (1, .int a1)]) hx hb dX6_toRead_32 rfl hl (by decide) rfl (fun ls hl => ?_)
      refine lv_iconst (v := 0) hx hb dX6_toRead_33 (by decide) ?_
      refine lv_istore (lv' := [(4, .int (0:Int32)), (3, .int (0:Int32)), (2, .int (-9:Int32)), (0, .ref ht), (1, .int a1)]) hx hb dX6_toRead_34 hl (by decide) rfl (fun ls hl => ?_)
      have ex36 : ∀ (z2_36 : Int32) (z3_36 : Int32) (z4_36 : Int32) (zvt_pages_36 : (Nat → Int32)) (zvt_alike_36 : (Nat → Int32)) (H : Heap) (locs : List Loc) (ls : Array Slot), va_P (dC, dI) vwCl [(ht_alike, .inl (cI, 28672, .inl zvt_alike_36)), (ht, .inr (5, [.int vt_clerks, .ref ht_drops, .ref ht_tires, .ref ht_now, .ref ht_told, .ref ht_text, .int vt_length, .ref ht_pages, .int vt_acts, .int vt_next, .ref ht_row, .int vt_found, .ref ht_alike, .ref ht_table, .ref ht_keys, .ref ht_own, .long vt_seed, .ref ht_isKept, .ref ht_kept])), (ht_drops, .inl (cI, 4, .inl vt_drops)), (ht_tires, .inl (cI, 4, .inl vt_tires)), (ht_now, .inl (cI, 13, .inl vt_now)), (ht_told, .inl (cI, 4, .inl vt_told)), (ht_pages, .inl (cI, 4, .inl zvt_pages_36))] H → va_D A [(ht_alike, .inl (cI, 28672, .inl zvt_alike_36)), (ht, .inr (5, [.int vt_clerks, .ref ht_drops, .ref ht_tires, .ref ht_now, .ref ht_told, .ref ht_text, .int vt_length, .ref ht_pages, .int vt_acts, .int vt_next, .ref ht_row, .int vt_found, .ref ht_alike, .ref ht_table, .ref ht_keys, .ref ht_own, .long vt_seed, .ref ht_isKept, .ref ht_kept])), (ht_drops, .inl (cI, 4, .inl vt_drops)), (ht_tires, .inl (cI, 4, .inl vt_tires)), (ht_now, .inl (cI, 13, .inl vt_now)), (ht_told, .inl (cI, 4, .inl vt_told)), (ht_pages, .inl (cI, 4, .inl zvt_pages_36))] → va_S A s.heap H locs → lv_has ls 6 [(4, .int z4_36), (3, .int z3_36), (2, .int z2_36), (0, .ref ht), (1, .int a1)] → (some (z2_36, (zvt_pages_36, zvt_alike_36))) = some R → W p l e (rm_X6_toRead) s m ([.ref ht, .int a1] : List Value).toArray below meth c H locs 0 0 (MQ below (q_X6_toRead dC dI cI cJ cZ ht ht_drops ht_tires ht_now ht_told ht_text ht_pages ht_row ht_alike ht_table ht_keys ht_own ht_isKept ht_kept vt_clerks vt_length vt_acts vt_next vt_found vt_seed vt_drops vt_tires vt_now vt_told R A) ([.ref ht, .int a1] : List Value).toArray s 0 0 A) (F0 m 104 ls []) := by
        intro z2_36 z3_36 z4_36 zvt_pages_36 zvt_alike_36 H locs ls hP hD hS hl hf
        refine lv_iload_n hx hb dX6_toRead_104 rfl (lv_at hl 2 rfl) ?_
        have he := Option.some.inj hf
        have hP9 := (hP.sub (ws' := [(ht, .inr (5, [.int vt_clerks, .ref ht_drops, .ref ht_tires, .ref ht_now, .ref ht_told, .ref ht_text, .int vt_length, .ref ht_pages, .int vt_acts, .int vt_next, .ref ht_row, .int vt_found, .ref ht_alike, .ref ht_table, .ref ht_keys, .ref ht_own, .long vt_seed, .ref ht_isKept, .ref ht_kept])), (ht_drops, .inl (cI, 4, .inl vt_drops)), (ht_tires, .inl (cI, 4, .inl vt_tires)), (ht_now, .inl (cI, 13, .inl vt_now)), (ht_told, .inl (cI, 4, .inl vt_told)), (ht_pages, .inl (cI, 4, .inl zvt_pages_36)), (ht_alike, .inl (cI, 28672, .inl zvt_alike_36))]) [1, 2, 3, 4, 5, 6, 0] rfl)
        have hD9 := (hD.sub (ws' := [(ht, .inr (5, [.int vt_clerks, .ref ht_drops, .ref ht_tires, .ref ht_now, .ref ht_told, .ref ht_text, .int vt_length, .ref ht_pages, .int vt_acts, .int vt_next, .ref ht_row, .int vt_found, .ref ht_alike, .ref ht_table, .ref ht_keys, .ref ht_own, .long vt_seed, .ref ht_isKept, .ref ht_kept])), (ht_drops, .inl (cI, 4, .inl vt_drops)), (ht_tires, .inl (cI, 4, .inl vt_tires)), (ht_now, .inl (cI, 13, .inl vt_now)), (ht_told, .inl (cI, 4, .inl vt_told)), (ht_pages, .inl (cI, 4, .inl zvt_pages_36)), (ht_alike, .inl (cI, 28672, .inl zvt_alike_36))]) [1, 2, 3, 4, 5, 6, 0] (by decide) rfl)
        exact W.iret (v := z2_36) hx hb hr (fun t eth hW => ⟨⟨z2_36, (zvt_pages_36, zvt_alike_36), rfl, ⟨(congrArg Prod.fst he).symm, (congrArg Prod.snd he).symm⟩, by rw [eth]; exact hP9, va_K.moved hW.alike hK, hD9⟩, hS.F eth⟩) hS.2.2 dX6_toRead_105
      have lp36 : ∀ (n36 : Nat) (y2_36 : Int32) (y3_36 : Int32) (y4_36 : Int32) (yvt_pages_36 : (Nat → Int32)) (yvt_alike_36 : (Nat → Int32)) (H : Heap) (locs : List Loc) (ls : Array Slot), va_P (dC, dI) vwCl [(ht_alike, .inl (cI, 28672, .inl yvt_alike_36)), (ht, .inr (5, [.int vt_clerks, .ref ht_drops, .ref ht_tires, .ref ht_now, .ref ht_told, .ref ht_text, .int vt_length, .ref ht_pages, .int vt_acts, .int vt_next, .ref ht_row, .int vt_found, .ref ht_alike, .ref ht_table, .ref ht_keys, .ref ht_own, .long vt_seed, .ref ht_isKept, .ref ht_kept])), (ht_drops, .inl (cI, 4, .inl vt_drops)), (ht_tires, .inl (cI, 4, .inl vt_tires)), (ht_now, .inl (cI, 13, .inl vt_now)), (ht_told, .inl (cI, 4, .inl vt_told)), (ht_pages, .inl (cI, 4, .inl yvt_pages_36))] H → va_D A [(ht_alike, .inl (cI, 28672, .inl yvt_alike_36)), (ht, .inr (5, [.int vt_clerks, .ref ht_drops, .ref ht_tires, .ref ht_now, .ref ht_told, .ref ht_text, .int vt_length, .ref ht_pages, .int vt_acts, .int vt_next, .ref ht_row, .int vt_found, .ref ht_alike, .ref ht_table, .ref ht_keys, .ref ht_own, .long vt_seed, .ref ht_isKept, .ref ht_kept])), (ht_drops, .inl (cI, 4, .inl vt_drops)), (ht_tires, .inl (cI, 4, .inl vt_tires)), (ht_now, .inl (cI, 13, .inl vt_now)), (ht_told, .inl (cI, 4, .inl vt_told)), (ht_pages, .inl (cI, 4, .inl yvt_pages_36))] → va_S A s.heap H locs → lv_has ls 6 [(4, .int y4_36), (3, .int y3_36), (2, .int y2_36), (0, .ref ht), (1, .int a1)] → f_X6_toRead_36 N a1 vt_clerks vt_drops vt_tires vt_now vt_told (fun z2_36 z3_36 z4_36 zvt_pages_36 zvt_alike_36 => some (z2_36, (zvt_pages_36, zvt_alike_36))) n36 y2_36 y3_36 y4_36 yvt_pages_36 yvt_alike_36 = some R → W p l e (rm_X6_toRead) s m ([.ref ht, .int a1] : List Value).toArray below meth c H locs 0 0 (MQ below (q_X6_toRead dC dI cI cJ cZ ht ht_drops ht_tires ht_now ht_told ht_text ht_pages ht_row ht_alike ht_table ht_keys ht_own ht_isKept ht_kept vt_clerks vt_length vt_acts vt_next vt_found vt_seed vt_drops vt_tires vt_now vt_told R A) ([.ref ht, .int a1] : List Value).toArray s 0 0 A) (F0 m 36 ls []) := by
        intro n36
        induction n36 with
        | zero => intro y2_36 y3_36 y4_36 yvt_pages_36 yvt_alike_36 H locs ls hP hD hS hl hf; rw [f_X6_toRead_36] at hf; cases hf
        | succ n36 ih36 =>
          intro y2_36 y3_36 y4_36 yvt_pages_36 yvt_alike_36 H locs ls hP hD hS hl hf
          rw [f_X6_toRead_36] at hf
          refine lv_iload hx hb dX6_toRead_36 (lv_at hl 0 rfl) ?_
          refine lv_aload_n hx hb dX6_toRead_38 rfl (lv_at hl 3 rfl) ?_
          refine va_get (D := (dC, dI)) (ci := 5) (v := .int vt_clerks) (C := RX6) (T := TX6) (N := 19) hx hb hts hinX6 hown hK hP 1 rfl rfl 0 (by decide) hw1 (fun _ h9 => h9) rfl dX6_toRead_39 ?_
          refine lv_icmp_ge (tgt := 104) hx hb dX6_toRead_42 (by decide) (fun c5 => ?_) (fun c5 => ?_)
          · replace hf := dg_t c5 hf
            exact ex36 y2_36 y3_36 y4_36 yvt_pages_36 yvt_alike_36 _ _ _ hP hD hS (lv_sub hl [0, 1, 2, 3, 4] rfl) hf
          · replace hf := dg_f c5 hf
            refine lv_aload_n hx hb dX6_toRead_45 rfl (lv_at hl 3 rfl) ?_
            refine va_get (D := (dC, dI)) (ci := 5) (v := .ref ht_told) (C := RX6) (T := TX6) (N := 19) hx hb hts hinX6 hown hK hP 1 rfl rfl 4 (by decide) hw2 (fun _ h9 => h9) rfl dX6_toRead_46 ?_
            refine lv_iload hx hb dX6_toRead_49 (lv_at hl 0 rfl) ?_
            obtain ⟨hi6, hf⟩ := dg_ix hf
            refine va_iald hx hb hK hP 5 0 rfl rfl hi6 dX6_toRead_51 ?_
            refine lv_bipush (v := -9) hx hb dX6_toRead_52 (by decide) ?_
            refine lv_icmp_ne (tgt := 98) hx hb dX6_toRead_54 (by decide) (fun c7 => ?_) (fun c7 => ?_)
            · replace hf := dg_f c7 hf
              refine lv_iinc (v := (y4_36 + (1:Int32))) (lv' := [(4, .int (y4_36 + (1:Int32))), (3, .int y3_36), (2, .int y2_36), (0, .ref ht), (1, .int a1)]) hx hb dX6_toRead_98 hl (k := 0) rfl (by first | rfl | decide) (by decide) rfl (fun ls hl => ?_)
              refine lv_goto (tgt := 36) hx hb dX6_toRead_101 (by decide) ?_
              exact ih36 y2_36 y3_36 (y4_36 + (1:Int32)) yvt_pages_36 yvt_alike_36 _ _ _ hP hD hS (lv_sub hl [0, 1, 2, 3, 4] rfl) hf
            · replace hf := dg_t c7 hf
              refine lv_aload_n hx hb dX6_toRead_57 rfl (lv_at hl 3 rfl) ?_
              refine lv_iload hx hb dX6_toRead_58 (lv_at hl 0 rfl) ?_
              refine lv_iload_n hx hb dX6_toRead_60 rfl (lv_at hl 4 rfl) ?_
              obtain ⟨x8, hx8, hf⟩ := dg_bind hf
              have hPc : va_P (dC, dI) vwCl [(ht, .inr (5, [.int vt_clerks, .ref ht_drops, .ref ht_tires, .ref ht_now, .ref ht_told, .ref ht_text, .int vt_length, .ref ht_pages, .int vt_acts, .int vt_next, .ref ht_row, .int vt_found, .ref ht_alike, .ref ht_table, .ref ht_keys, .ref ht_own, .long vt_seed, .ref ht_isKept, .ref ht_kept])), (ht_drops, .inl (cI, 4, .inl vt_drops)), (ht_tires, .inl (cI, 4, .inl vt_tires)), (ht_now, .inl (cI, 13, .inl vt_now)), (ht_told, .inl (cI, 4, .inl vt_told)), (ht_pages, .inl (cI, 4, .inl yvt_pages_36)), (ht_alike, .inl (cI, 28672, .inl yvt_alike_36))] H := hP.sub [1, 2, 3, 4, 5, 6, 0] rfl
              have hDc : va_D A [(ht, .inr (5, [.int vt_clerks, .ref ht_drops, .ref ht_tires, .ref ht_now, .ref ht_told, .ref ht_text, .int vt_length, .ref ht_pages, .int vt_acts, .int vt_next, .ref ht_row, .int vt_found, .ref ht_alike, .ref ht_table, .ref ht_keys, .ref ht_own, .long vt_seed, .ref ht_isKept, .ref ht_kept])), (ht_drops, .inl (cI, 4, .inl vt_drops)), (ht_tires, .inl (cI, 4, .inl vt_tires)), (ht_now, .inl (cI, 13, .inl vt_now)), (ht_told, .inl (cI, 4, .inl vt_told)), (ht_pages, .inl (cI, 4, .inl yvt_pages_36)), (ht_alike, .inl (cI, 28672, .inl yvt_alike_36))] := hD.sub [1, 2, 3, 4, 5, 6, 0] (by decide) rfl
              have hFc := va_free (wc := [(ht, .inr (5, [.int vt_clerks, .ref ht_drops, .ref ht_tires, .ref ht_now, .ref ht_told, .ref ht_text, .int vt_length, .ref ht_pages, .int vt_acts, .int vt_next, .ref ht_row, .int vt_found, .ref ht_alike, .ref ht_table, .ref ht_keys, .ref ht_own, .long vt_seed, .ref ht_isKept, .ref ht_kept])), (ht_drops, .inl (cI, 4, .inl vt_drops)), (ht_tires, .inl (cI, 4, .inl vt_tires)), (ht_now, .inl (cI, 13, .inl vt_now)), (ht_told, .inl (cI, 4, .inl vt_told)), (ht_pages, .inl (cI, 4, .inl yvt_pages_36)), (ht_alike, .inl (cI, 28672, .inl yvt_alike_36))]) hD hS hA [1, 2, 3, 4, 5, 6, 0] rfl
              refine va_calli (va_runV (As := [.int y4_36, .int a1]) (rest := []) ⟨hx, hb, hml, hown, hts⟩ (k_X6_mostAlike l dC dI cI cJ cZ H.size ht ht_drops ht_tires ht_now ht_told ht_text ht_pages ht_row ht_alike ht_table ht_keys ht_own ht_isKept ht_kept y4_36 a1 vt_clerks vt_length vt_acts vt_next vt_found vt_seed vt_drops vt_tires vt_now vt_told yvt_pages_36 yvt_alike_36 N x8 hx8) (cwV 2 hts gX6_toRead_X6_mostAlike rfl rfl rfl hd_X6_mostAlike ⟨Nat.le_of_ble_eq_true rfl, Nat.le_of_ble_eq_true rfl⟩) ⟨blind_pc, va_recv hK hPc (ci := 5) (q0 := 0) rfl rfl, pre_pc hPc hK hDc⟩ rfl rfl hl.1 rfl (lv_room (Nat.le_of_ble_eq_true rfl)) dX6_toRead_61 ⟨Nat.zero_le _, Nat.zero_le _⟩) hS (fun q _ h => hFc q h) hFc (fun r u t H1 locs eth hvm hw hB hz1 hk1 hS => ?_)
              obtain ⟨hP1, hK1, hD1⟩ := hB
              rw [eth] at hP1
              obtain ⟨hw, hw2⟩ := hw
              subst hw; subst hw2
              obtain ⟨hP, hD⟩ := va_join (wr := []) (w1 := [(ht, .inr (5, [.int vt_clerks, .ref ht_drops, .ref ht_tires, .ref ht_now, .ref ht_told, .ref ht_text, .int vt_length, .ref ht_pages, .int vt_acts, .int vt_next, .ref ht_row, .int vt_found, .ref ht_alike, .ref ht_table, .ref ht_keys, .ref ht_own, .long vt_seed, .ref ht_isKept, .ref ht_kept])), (ht_drops, .inl (cI, 4, .inl vt_drops)), (ht_tires, .inl (cI, 4, .inl vt_tires)), (ht_now, .inl (cI, 13, .inl vt_now)), (ht_told, .inl (cI, 4, .inl vt_told)), (ht_pages, .inl (cI, 4, .inl x8.2.1)), (ht_alike, .inl (cI, 28672, .inl x8.2.2))]) hP hD [1, 2, 3, 4, 5, 6, 0] [] rfl rfl (by decide) (by decide) hk1 hFc hP1 hD1
              clear hP1 hK1 hD1 hPc hDc hFc hk1 hz1 hvm eth
              generalize H1 = H at hP hS ⊢
              have hP : va_P (dC, dI) vwCl [(ht, .inr (5, [.int vt_clerks, .ref ht_drops, .ref ht_tires, .ref ht_now, .ref ht_told, .ref ht_text, .int vt_length, .ref ht_pages, .int vt_acts, .int vt_next, .ref ht_row, .int vt_found, .ref ht_alike, .ref ht_table, .ref ht_keys, .ref ht_own, .long vt_seed, .ref ht_isKept, .ref ht_kept])), (ht_drops, .inl (cI, 4, .inl vt_drops)), (ht_tires, .inl (cI, 4, .inl vt_tires)), (ht_now, .inl (cI, 13, .inl vt_now)), (ht_told, .inl (cI, 4, .inl vt_told)), (ht_pages, .inl (cI, 4, .inl x8.2.1)), (ht_alike, .inl (cI, 28672, .inl x8.2.2))] H := hP
              have hD : va_D A [(ht, .inr (5, [.int vt_clerks, .ref ht_drops, .ref ht_tires, .ref ht_now, .ref ht_told, .ref ht_text, .int vt_length, .ref ht_pages, .int vt_acts, .int vt_next, .ref ht_row, .int vt_found, .ref ht_alike, .ref ht_table, .ref ht_keys, .ref ht_own, .long vt_seed, .ref ht_isKept, .ref ht_kept])), (ht_drops, .inl (cI, 4, .inl vt_drops)), (ht_tires, .inl (cI, 4, .inl vt_tires)), (ht_now, .inl (cI, 13, .inl vt_now)), (ht_told, .inl (cI, 4, .inl vt_told)), (ht_pages, .inl (cI, 4, .inl x8.2.1)), (ht_alike, .inl (cI, 28672, .inl x8.2.2))] := hD
              refine lv_istore (lv' := [(5, .int x8.1), (4, .int y4_36), (3, .int y3_36), (2, .int y2_36), (0, .ref ht), (1, .int a1)]) hx hb dX6_toRead_64 hl (by decide) rfl (fun ls hl => ?_)
              refine lv_iload_n hx hb dX6_toRead_66 rfl (lv_at hl 3 rfl) ?_
              refine lv_bipush (v := -9) hx hb dX6_toRead_67 (by decide) ?_
              refine lv_icmp_eq (tgt := 78) hx hb dX6_toRead_69 (by decide) (fun c9 => ?_) (fun c9 => ?_)
              · replace hf := dg_t c9 hf
                refine lv_iload hx hb dX6_toRead_78 (lv_at hl 1 rfl) ?_
                refine lv_goto (tgt := 84) hx hb dX6_toRead_80 (by decide) ?_
                refine lv_istore_n (lv' := [(2, .int y4_36), (5, .int x8.1), (4, .int y4_36), (3, .int y3_36), (0, .ref ht), (1, .int a1)]) hx hb dX6_toRead_84 rfl hl (by decide) rfl (fun ls hl => ?_)
                refine lv_iload_n hx hb dX6_toRead_85 rfl (lv_at hl 0 rfl) ?_
                refine lv_iload hx hb dX6_toRead_86 (lv_at hl 2 rfl) ?_
                refine lv_icmp_ne (tgt := 96) hx hb dX6_toRead_88 (by decide) (fun c10 => ?_) (fun c10 => ?_)
                · replace hf := dg_f c10 hf
                  refine lv_iload_n hx hb dX6_toRead_96 rfl (lv_at hl 3 rfl) ?_
                  refine lv_istore_n (lv' := [(3, .int y3_36), (2, .int y4_36), (5, .int x8.1), (4, .int y4_36), (0, .ref ht), (1, .int a1)]) hx hb dX6_toRead_97 rfl hl (by decide) rfl (fun ls hl => ?_)
                  refine lv_iinc (v := (y4_36 + (1:Int32))) (lv' := [(4, .int (y4_36 + (1:Int32))), (3, .int y3_36), (2, .int y4_36), (5, .int x8.1), (0, .ref ht), (1, .int a1)]) hx hb dX6_toRead_98 hl (k := 3) rfl (by first | rfl | decide) (by decide) rfl (fun ls hl => ?_)
                  refine lv_goto (tgt := 36) hx hb dX6_toRead_101 (by decide) ?_
                  exact ih36 y4_36 y3_36 (y4_36 + (1:Int32)) x8.2.1 x8.2.2 _ _ _ (hP.sub (ws' := [(ht_alike, .inl (cI, 28672, .inl x8.2.2)), (ht, .inr (5, [.int vt_clerks, .ref ht_drops, .ref ht_tires, .ref ht_now, .ref ht_told, .ref ht_text, .int vt_length, .ref ht_pages, .int vt_acts, .int vt_next, .ref ht_row, .int vt_found, .ref ht_alike, .ref ht_table, .ref ht_keys, .ref ht_own, .long vt_seed, .ref ht_isKept, .ref ht_kept])), (ht_drops, .inl (cI, 4, .inl vt_drops)), (ht_tires, .inl (cI, 4, .inl vt_tires)), (ht_now, .inl (cI, 13, .inl vt_now)), (ht_told, .inl (cI, 4, .inl vt_told)), (ht_pages, .inl (cI, 4, .inl x8.2.1))]) [6, 0, 1, 2, 3, 4, 5] rfl) (hD.sub (ws' := [(ht_alike, .inl (cI, 28672, .inl x8.2.2)), (ht, .inr (5, [.int vt_clerks, .ref ht_drops, .ref ht_tires, .ref ht_now, .ref ht_told, .ref ht_text, .int vt_length, .ref ht_pages, .int vt_acts, .int vt_next, .ref ht_row, .int vt_found, .ref ht_alike, .ref ht_table, .ref ht_keys, .ref ht_own, .long vt_seed, .ref ht_isKept, .ref ht_kept])), (ht_drops, .inl (cI, 4, .inl vt_drops)), (ht_tires, .inl (cI, 4, .inl vt_tires)), (ht_now, .inl (cI, 13, .inl vt_now)), (ht_told, .inl (cI, 4, .inl vt_told)), (ht_pages, .inl (cI, 4, .inl x8.2.1))]) [6, 0, 1, 2, 3, 4, 5] (by decide) rfl) hS (lv_sub hl [0, 1, 2, 4, 5] rfl) hf
                · replace hf := dg_t c10 hf
                  refine lv_iload hx hb dX6_toRead_91 (lv_at hl 1 rfl) ?_
                  refine lv_goto (tgt := 97) hx hb dX6_toRead_93 (by decide) ?_
                  refine lv_istore_n (lv' := [(3, .int x8.1), (2, .int y4_36), (5, .int x8.1), (4, .int y4_36), (0, .ref ht), (1, .int a1)]) hx hb dX6_toRead_97 rfl hl (by decide) rfl (fun ls hl => ?_)
                  refine lv_iinc (v := (y4_36 + (1:Int32))) (lv' := [(4, .int (y4_36 + (1:Int32))), (3, .int x8.1), (2, .int y4_36), (5, .int x8.1), (0, .ref ht), (1, .int a1)]) hx hb dX6_toRead_98 hl (k := 3) rfl (by first | rfl | decide) (by decide) rfl (fun ls hl => ?_)
                  refine lv_goto (tgt := 36) hx hb dX6_toRead_101 (by decide) ?_
                  exact ih36 y4_36 x8.1 (y4_36 + (1:Int32)) x8.2.1 x8.2.2 _ _ _ (hP.sub (ws' := [(ht_alike, .inl (cI, 28672, .inl x8.2.2)), (ht, .inr (5, [.int vt_clerks, .ref ht_drops, .ref ht_tires, .ref ht_now, .ref ht_told, .ref ht_text, .int vt_length, .ref ht_pages, .int vt_acts, .int vt_next, .ref ht_row, .int vt_found, .ref ht_alike, .ref ht_table, .ref ht_keys, .ref ht_own, .long vt_seed, .ref ht_isKept, .ref ht_kept])), (ht_drops, .inl (cI, 4, .inl vt_drops)), (ht_tires, .inl (cI, 4, .inl vt_tires)), (ht_now, .inl (cI, 13, .inl vt_now)), (ht_told, .inl (cI, 4, .inl vt_told)), (ht_pages, .inl (cI, 4, .inl x8.2.1))]) [6, 0, 1, 2, 3, 4, 5] rfl) (hD.sub (ws' := [(ht_alike, .inl (cI, 28672, .inl x8.2.2)), (ht, .inr (5, [.int vt_clerks, .ref ht_drops, .ref ht_tires, .ref ht_now, .ref ht_told, .ref ht_text, .int vt_length, .ref ht_pages, .int vt_acts, .int vt_next, .ref ht_row, .int vt_found, .ref ht_alike, .ref ht_table, .ref ht_keys, .ref ht_own, .long vt_seed, .ref ht_isKept, .ref ht_kept])), (ht_drops, .inl (cI, 4, .inl vt_drops)), (ht_tires, .inl (cI, 4, .inl vt_tires)), (ht_now, .inl (cI, 13, .inl vt_now)), (ht_told, .inl (cI, 4, .inl vt_told)), (ht_pages, .inl (cI, 4, .inl x8.2.1))]) [6, 0, 1, 2, 3, 4, 5] (by decide) rfl) hS (lv_sub hl [0, 1, 2, 4, 5] rfl) hf
              · replace hf := dg_f c9 hf
                refine lv_iload hx hb dX6_toRead_72 (lv_at hl 0 rfl) ?_
                refine lv_iload_n hx hb dX6_toRead_74 rfl (lv_at hl 2 rfl) ?_
                refine lv_icmp_ge (tgt := 83) hx hb dX6_toRead_75 (by decide) (fun c11 => ?_) (fun c11 => ?_)
                · replace hf := dg_t c11 hf
                  refine lv_iload_n hx hb dX6_toRead_83 rfl (lv_at hl 3 rfl) ?_
                  refine lv_istore_n (lv' := [(2, .int y2_36), (5, .int x8.1), (4, .int y4_36), (3, .int y3_36), (0, .ref ht), (1, .int a1)]) hx hb dX6_toRead_84 rfl hl (by decide) rfl (fun ls hl => ?_)
                  refine lv_iload_n hx hb dX6_toRead_85 rfl (lv_at hl 0 rfl) ?_
                  refine lv_iload hx hb dX6_toRead_86 (lv_at hl 2 rfl) ?_
                  refine lv_icmp_ne (tgt := 96) hx hb dX6_toRead_88 (by decide) (fun c12 => ?_) (fun c12 => ?_)
                  · replace hf := dg_f c12 hf
                    refine lv_iload_n hx hb dX6_toRead_96 rfl (lv_at hl 3 rfl) ?_
                    refine lv_istore_n (lv' := [(3, .int y3_36), (2, .int y2_36), (5, .int x8.1), (4, .int y4_36), (0, .ref ht), (1, .int a1)]) hx hb dX6_toRead_97 rfl hl (by decide) rfl (fun ls hl => ?_)
                    refine lv_iinc (v := (y4_36 + (1:Int32))) (lv' := [(4, .int (y4_36 + (1:Int32))), (3, .int y3_36), (2, .int y2_36), (5, .int x8.1), (0, .ref ht), (1, .int a1)]) hx hb dX6_toRead_98 hl (k := 3) rfl (by first | rfl | decide) (by decide) rfl (fun ls hl => ?_)
                    refine lv_goto (tgt := 36) hx hb dX6_toRead_101 (by decide) ?_
                    exact ih36 y2_36 y3_36 (y4_36 + (1:Int32)) x8.2.1 x8.2.2 _ _ _ (hP.sub (ws' := [(ht_alike, .inl (cI, 28672, .inl x8.2.2)), (ht, .inr (5, [.int vt_clerks, .ref ht_drops, .ref ht_tires, .ref ht_now, .ref ht_told, .ref ht_text, .int vt_length, .ref ht_pages, .int vt_acts, .int vt_next, .ref ht_row, .int vt_found, .ref ht_alike, .ref ht_table, .ref ht_keys, .ref ht_own, .long vt_seed, .ref ht_isKept, .ref ht_kept])), (ht_drops, .inl (cI, 4, .inl vt_drops)), (ht_tires, .inl (cI, 4, .inl vt_tires)), (ht_now, .inl (cI, 13, .inl vt_now)), (ht_told, .inl (cI, 4, .inl vt_told)), (ht_pages, .inl (cI, 4, .inl x8.2.1))]) [6, 0, 1, 2, 3, 4, 5] rfl) (hD.sub (ws' := [(ht_alike, .inl (cI, 28672, .inl x8.2.2)), (ht, .inr (5, [.int vt_clerks, .ref ht_drops, .ref ht_tires, .ref ht_now, .ref ht_told, .ref ht_text, .int vt_length, .ref ht_pages, .int vt_acts, .int vt_next, .ref ht_row, .int vt_found, .ref ht_alike, .ref ht_table, .ref ht_keys, .ref ht_own, .long vt_seed, .ref ht_isKept, .ref ht_kept])), (ht_drops, .inl (cI, 4, .inl vt_drops)), (ht_tires, .inl (cI, 4, .inl vt_tires)), (ht_now, .inl (cI, 13, .inl vt_now)), (ht_told, .inl (cI, 4, .inl vt_told)), (ht_pages, .inl (cI, 4, .inl x8.2.1))]) [6, 0, 1, 2, 3, 4, 5] (by decide) rfl) hS (lv_sub hl [0, 1, 2, 4, 5] rfl) hf
                  · replace hf := dg_t c12 hf
                    refine lv_iload hx hb dX6_toRead_91 (lv_at hl 1 rfl) ?_
                    refine lv_goto (tgt := 97) hx hb dX6_toRead_93 (by decide) ?_
                    refine lv_istore_n (lv' := [(3, .int x8.1), (2, .int y2_36), (5, .int x8.1), (4, .int y4_36), (0, .ref ht), (1, .int a1)]) hx hb dX6_toRead_97 rfl hl (by decide) rfl (fun ls hl => ?_)
                    refine lv_iinc (v := (y4_36 + (1:Int32))) (lv' := [(4, .int (y4_36 + (1:Int32))), (3, .int x8.1), (2, .int y2_36), (5, .int x8.1), (0, .ref ht), (1, .int a1)]) hx hb dX6_toRead_98 hl (k := 3) rfl (by first | rfl | decide) (by decide) rfl (fun ls hl => ?_)
                    refine lv_goto (tgt := 36) hx hb dX6_toRead_101 (by decide) ?_
                    exact ih36 y2_36 x8.1 (y4_36 + (1:Int32)) x8.2.1 x8.2.2 _ _ _ (hP.sub (ws' := [(ht_alike, .inl (cI, 28672, .inl x8.2.2)), (ht, .inr (5, [.int vt_clerks, .ref ht_drops, .ref ht_tires, .ref ht_now, .ref ht_told, .ref ht_text, .int vt_length, .ref ht_pages, .int vt_acts, .int vt_next, .ref ht_row, .int vt_found, .ref ht_alike, .ref ht_table, .ref ht_keys, .ref ht_own, .long vt_seed, .ref ht_isKept, .ref ht_kept])), (ht_drops, .inl (cI, 4, .inl vt_drops)), (ht_tires, .inl (cI, 4, .inl vt_tires)), (ht_now, .inl (cI, 13, .inl vt_now)), (ht_told, .inl (cI, 4, .inl vt_told)), (ht_pages, .inl (cI, 4, .inl x8.2.1))]) [6, 0, 1, 2, 3, 4, 5] rfl) (hD.sub (ws' := [(ht_alike, .inl (cI, 28672, .inl x8.2.2)), (ht, .inr (5, [.int vt_clerks, .ref ht_drops, .ref ht_tires, .ref ht_now, .ref ht_told, .ref ht_text, .int vt_length, .ref ht_pages, .int vt_acts, .int vt_next, .ref ht_row, .int vt_found, .ref ht_alike, .ref ht_table, .ref ht_keys, .ref ht_own, .long vt_seed, .ref ht_isKept, .ref ht_kept])), (ht_drops, .inl (cI, 4, .inl vt_drops)), (ht_tires, .inl (cI, 4, .inl vt_tires)), (ht_now, .inl (cI, 13, .inl vt_now)), (ht_told, .inl (cI, 4, .inl vt_told)), (ht_pages, .inl (cI, 4, .inl x8.2.1))]) [6, 0, 1, 2, 3, 4, 5] (by decide) rfl) hS (lv_sub hl [0, 1, 2, 4, 5] rfl) hf
                · replace hf := dg_f c11 hf
                  refine lv_iload hx hb dX6_toRead_78 (lv_at hl 1 rfl) ?_
                  refine lv_goto (tgt := 84) hx hb dX6_toRead_80 (by decide) ?_
                  refine lv_istore_n (lv' := [(2, .int y4_36), (5, .int x8.1), (4, .int y4_36), (3, .int y3_36), (0, .ref ht), (1, .int a1)]) hx hb dX6_toRead_84 rfl hl (by decide) rfl (fun ls hl => ?_)
                  refine lv_iload_n hx hb dX6_toRead_85 rfl (lv_at hl 0 rfl) ?_
                  refine lv_iload hx hb dX6_toRead_86 (lv_at hl 2 rfl) ?_
                  refine lv_icmp_ne (tgt := 96) hx hb dX6_toRead_88 (by decide) (fun c13 => ?_) (fun c13 => ?_)
                  · replace hf := dg_f c13 hf
                    refine lv_iload_n hx hb dX6_toRead_96 rfl (lv_at hl 3 rfl) ?_
                    refine lv_istore_n (lv' := [(3, .int y3_36), (2, .int y4_36), (5, .int x8.1), (4, .int y4_36), (0, .ref ht), (1, .int a1)]) hx hb dX6_toRead_97 rfl hl (by decide) rfl (fun ls hl => ?_)
                    refine lv_iinc (v := (y4_36 + (1:Int32))) (lv' := [(4, .int (y4_36 + (1:Int32))), (3, .int y3_36), (2, .int y4_36), (5, .int x8.1), (0, .ref ht), (1, .int a1)]) hx hb dX6_toRead_98 hl (k := 3) rfl (by first | rfl | decide) (by decide) rfl (fun ls hl => ?_)
                    refine lv_goto (tgt := 36) hx hb dX6_toRead_101 (by decide) ?_
                    exact ih36 y4_36 y3_36 (y4_36 + (1:Int32)) x8.2.1 x8.2.2 _ _ _ (hP.sub (ws' := [(ht_alike, .inl (cI, 28672, .inl x8.2.2)), (ht, .inr (5, [.int vt_clerks, .ref ht_drops, .ref ht_tires, .ref ht_now, .ref ht_told, .ref ht_text, .int vt_length, .ref ht_pages, .int vt_acts, .int vt_next, .ref ht_row, .int vt_found, .ref ht_alike, .ref ht_table, .ref ht_keys, .ref ht_own, .long vt_seed, .ref ht_isKept, .ref ht_kept])), (ht_drops, .inl (cI, 4, .inl vt_drops)), (ht_tires, .inl (cI, 4, .inl vt_tires)), (ht_now, .inl (cI, 13, .inl vt_now)), (ht_told, .inl (cI, 4, .inl vt_told)), (ht_pages, .inl (cI, 4, .inl x8.2.1))]) [6, 0, 1, 2, 3, 4, 5] rfl) (hD.sub (ws' := [(ht_alike, .inl (cI, 28672, .inl x8.2.2)), (ht, .inr (5, [.int vt_clerks, .ref ht_drops, .ref ht_tires, .ref ht_now, .ref ht_told, .ref ht_text, .int vt_length, .ref ht_pages, .int vt_acts, .int vt_next, .ref ht_row, .int vt_found, .ref ht_alike, .ref ht_table, .ref ht_keys, .ref ht_own, .long vt_seed, .ref ht_isKept, .ref ht_kept])), (ht_drops, .inl (cI, 4, .inl vt_drops)), (ht_tires, .inl (cI, 4, .inl vt_tires)), (ht_now, .inl (cI, 13, .inl vt_now)), (ht_told, .inl (cI, 4, .inl vt_told)), (ht_pages, .inl (cI, 4, .inl x8.2.1))]) [6, 0, 1, 2, 3, 4, 5] (by decide) rfl) hS (lv_sub hl [0, 1, 2, 4, 5] rfl) hf
                  · replace hf := dg_t c13 hf
                    refine lv_iload hx hb dX6_toRead_91 (lv_at hl 1 rfl) ?_
                    refine lv_goto (tgt := 97) hx hb dX6_toRead_93 (by decide) ?_
                    refine lv_istore_n (lv' := [(3, .int x8.1), (2, .int y4_36), (5, .int x8.1), (4, .int y4_36), (0, .ref ht), (1, .int a1)]) hx hb dX6_toRead_97 rfl hl (by decide) rfl (fun ls hl => ?_)
                    refine lv_iinc (v := (y4_36 + (1:Int32))) (lv' := [(4, .int (y4_36 + (1:Int32))), (3, .int x8.1), (2, .int y4_36), (5, .int x8.1), (0, .ref ht), (1, .int a1)]) hx hb dX6_toRead_98 hl (k := 3) rfl (by first | rfl | decide) (by decide) rfl (fun ls hl => ?_)
                    refine lv_goto (tgt := 36) hx hb dX6_toRead_101 (by decide) ?_
                    exact ih36 y4_36 x8.1 (y4_36 + (1:Int32)) x8.2.1 x8.2.2 _ _ _ (hP.sub (ws' := [(ht_alike, .inl (cI, 28672, .inl x8.2.2)), (ht, .inr (5, [.int vt_clerks, .ref ht_drops, .ref ht_tires, .ref ht_now, .ref ht_told, .ref ht_text, .int vt_length, .ref ht_pages, .int vt_acts, .int vt_next, .ref ht_row, .int vt_found, .ref ht_alike, .ref ht_table, .ref ht_keys, .ref ht_own, .long vt_seed, .ref ht_isKept, .ref ht_kept])), (ht_drops, .inl (cI, 4, .inl vt_drops)), (ht_tires, .inl (cI, 4, .inl vt_tires)), (ht_now, .inl (cI, 13, .inl vt_now)), (ht_told, .inl (cI, 4, .inl vt_told)), (ht_pages, .inl (cI, 4, .inl x8.2.1))]) [6, 0, 1, 2, 3, 4, 5] rfl) (hD.sub (ws' := [(ht_alike, .inl (cI, 28672, .inl x8.2.2)), (ht, .inr (5, [.int vt_clerks, .ref ht_drops, .ref ht_tires, .ref ht_now, .ref ht_told, .ref ht_text, .int vt_length, .ref ht_pages, .int vt_acts, .int vt_next, .ref ht_row, .int vt_found, .ref ht_alike, .ref ht_table, .ref ht_keys, .ref ht_own, .long vt_seed, .ref ht_isKept, .ref ht_kept])), (ht_drops, .inl (cI, 4, .inl vt_drops)), (ht_tires, .inl (cI, 4, .inl vt_tires)), (ht_now, .inl (cI, 13, .inl vt_now)), (ht_told, .inl (cI, 4, .inl vt_told)), (ht_pages, .inl (cI, 4, .inl x8.2.1))]) [6, 0, 1, 2, 3, 4, 5] (by decide) rfl) hS (lv_sub hl [0, 1, 2, 4, 5] rfl) hf
      exact lp36 N (-9:Int32) (0:Int32) (0:Int32) x3.2 vt_alike _ _ _ hP hD hS hl hf
    · replace hf := dg_t c4 hf
      refine lv_bipush (v := -9) hx hb dX6_toRead_25 (by decide) ?_
      have he := Option.some.inj hf
      have hP9 := (hP.sub (ws' := [(ht, .inr (5, [.int vt_clerks, .ref ht_drops, .ref ht_tires, .ref ht_now, .ref ht_told, .ref ht_text, .int vt_length, .ref ht_pages, .int vt_acts, .int vt_next, .ref ht_row, .int vt_found, .ref ht_alike, .ref ht_table, .ref ht_keys, .ref ht_own, .long vt_seed, .ref ht_isKept, .ref ht_kept])), (ht_drops, .inl (cI, 4, .inl vt_drops)), (ht_tires, .inl (cI, 4, .inl vt_tires)), (ht_now, .inl (cI, 13, .inl vt_now)), (ht_told, .inl (cI, 4, .inl vt_told)), (ht_pages, .inl (cI, 4, .inl x3.2)), (ht_alike, .inl (cI, 28672, .inl vt_alike))]) [1, 2, 3, 4, 5, 6, 0] rfl)
      have hD9 := (hD.sub (ws' := [(ht, .inr (5, [.int vt_clerks, .ref ht_drops, .ref ht_tires, .ref ht_now, .ref ht_told, .ref ht_text, .int vt_length, .ref ht_pages, .int vt_acts, .int vt_next, .ref ht_row, .int vt_found, .ref ht_alike, .ref ht_table, .ref ht_keys, .ref ht_own, .long vt_seed, .ref ht_isKept, .ref ht_kept])), (ht_drops, .inl (cI, 4, .inl vt_drops)), (ht_tires, .inl (cI, 4, .inl vt_tires)), (ht_now, .inl (cI, 13, .inl vt_now)), (ht_told, .inl (cI, 4, .inl vt_told)), (ht_pages, .inl (cI, 4, .inl x3.2)), (ht_alike, .inl (cI, 28672, .inl vt_alike))]) [1, 2, 3, 4, 5, 6, 0] (by decide) rfl)
      exact W.iret (v := (-9:Int32)) hx hb hr (fun t eth hW => ⟨⟨(-9:Int32), (x3.2, vt_alike), rfl, ⟨(congrArg Prod.fst he).symm, (congrArg Prod.snd he).symm⟩, by rw [eth]; exact hP9, va_K.moved hW.alike hK, hD9⟩, hS.F eth⟩) hS.2.2 dX6_toRead_27
  · replace hf := dg_t c2 hf
    refine lv_bipush (v := -2) hx hb dX6_toRead_12 (by decide) ?_
    have he := Option.some.inj hf
    have hP9 := hP
    have hD9 := hD
    exact W.iret (v := (-2:Int32)) hx hb hr (fun t eth hW => ⟨⟨(-2:Int32), (vt_pages, vt_alike), rfl, ⟨(congrArg Prod.fst he).symm, (congrArg Prod.snd he).symm⟩, by rw [eth]; exact hP9, va_K.moved hW.alike hK, hD9⟩, hS.F eth⟩) hS.2.2 dX6_toRead_14
theorem hd_X6_fromOf : yX6_fromOf.cls ≠ "java/lang/invoke/MethodHandle" ∧ yX6_fromOf.cls ≠ "java/lang/invoke/VarHandle" ∧ (parseMethodDescriptor yX6_fromOf.desc).map (fun d => d.parameters.length) = some 1 := by decide +kernel
abbrev rm_X6_fromOf : Room := { frames := 0, cells := 0, slots := 0, locals := 0 }
abbrev q_X6_fromOf (dC : Nat → ClassId) (dI : Nat → Nat → Nat) (cI cJ cZ : ClassId) (R : Int32) (A : Nat → Prop) : Array Value → State → Outcome → State → Prop := va_Qi (fun (r : Int32) (_ : Unit) => R = r) (fun (u : Unit) (t : State) => va_P (dC, dI) vwCl [] t.heap ∧ va_K (dC, dI) vwCl [(cI, .int), (cJ, .long), (cZ, .boolean)] t ∧ va_D A []) A
set_option maxHeartbeats 4000000 in
set_option maxRecDepth 100000 in
theorem k_X6_fromOf (l : Launch) (dC : Nat → ClassId) (dI : Nat → Nat → Nat) (cI cJ cZ : ClassId) (sz : Nat) (a0 : Int32) (N : Nat) (R : Int32) (hf : f_X6_fromOf N a0 = some R) : Met l yX6_fromOf wsX6_fromOf (rm_X6_fromOf) (va_Pc [.int a0] (fun U => U.heap.size = sz ∧ va_P (dC, dI) vwCl [] U.heap ∧ va_K (dC, dI) vwCl [(cI, .int), (cJ, .long), (cZ, .boolean)] U ∧ va_D (fun _ => True) [])) (q_X6_fromOf dC dI cI cJ cZ  R (va_A [] sz)) 0 0 (va_A [] sz) := by
  refine Met.ofW (cc := cX6_fromOf) (maxL := 1) (ret := (some .int)) (by decide) rfl ?_
  intro p e s m args below meth c s₁ B hml hv
  obtain ⟨rfl, hsz, hP, hK, hD0⟩ := hv
  have hx := B.exec
  have hb := B.bytes
  have hr := B.returns
  have hts := atoms_spec (ws := wsX6_fromOf) B.pre
  have hown : s.vm.findClass RX6 = some m.cls := findClass_of_methodNamed B.named
  have hlocks := B.notSynchronized
  clear B
  subst hsz
  have hD := hD0.self (sz := s.heap.size)
  clear hD0
  generalize hAe : va_A [] s.heap.size = A at hD ⊢
  have hA : ∀ q : Nat, s.heap.size ≤ q → A q := fun q h => by rw [← hAe]; exact Or.inr h
  clear hAe
  have hS : va_S A s.heap s.heap [] := va_S.rf
  have hl := lv_entry ([.int a0]) (n := 1) (Nat.le_of_ble_eq_true rfl)
  rw [lg_entry_eq]
  generalize (lg_sl ([.int a0]) ++ List.replicate (1 - (lg_sl ([.int a0])).length) Slot.unset).toArray = ls at hl ⊢
  have hl : lv_has ls 1 [(0, .int a0)] := hl
  unfold f_X6_fromOf at hf
  refine lv_iload_n hx hb dX6_fromOf_0 rfl (lv_at hl 0 rfl) ?_
  refine lv_if_ne (tgt := 9) hx hb dX6_fromOf_1 (by decide) (fun c1 => ?_) (fun c1 => ?_)
  · replace hf := dg_f c1 hf
    refine lv_iload_n hx hb dX6_fromOf_9 rfl (lv_at hl 0 rfl) ?_
    refine lv_iconst (v := 1) hx hb dX6_fromOf_10 (by decide) ?_
    refine lv_isub hx hb dX6_fromOf_11 ?_
    refine lv_iconst (v := 3) hx hb dX6_fromOf_12 (by decide) ?_
    refine lv_idiv hx hb dX6_fromOf_13 (by decide) ?_
    have he := Option.some.inj hf
    have hP9 := hP
    have hD9 := hD
    exact W.iret (v := ((a0 - (1:Int32)) / (3:Int32))) hx hb hr (fun t eth hW => ⟨⟨((a0 - (1:Int32)) / (3:Int32)), (), rfl, he.symm, by rw [eth]; exact hP9, va_K.moved hW.alike hK, hD9⟩, hS.F eth⟩) hS.2.2 dX6_fromOf_14
  · replace hf := dg_t c1 hf
    refine lv_bipush (v := -9) hx hb dX6_fromOf_4 (by decide) ?_
    refine lv_goto (tgt := 14) hx hb dX6_fromOf_6 (by decide) ?_
    have he := Option.some.inj hf
    have hP9 := hP
    have hD9 := hD
    exact W.iret (v := (-9:Int32)) hx hb hr (fun t eth hW => ⟨⟨(-9:Int32), (), rfl, he.symm, by rw [eth]; exact hP9, va_K.moved hW.alike hK, hD9⟩, hS.F eth⟩) hS.2.2 dX6_fromOf_14
theorem hd_X6_toOf : yX6_toOf.cls ≠ "java/lang/invoke/MethodHandle" ∧ yX6_toOf.cls ≠ "java/lang/invoke/VarHandle" ∧ (parseMethodDescriptor yX6_toOf.desc).map (fun d => d.parameters.length) = some 1 := by decide +kernel
abbrev rm_X6_toOf : Room := { frames := 1, cells := 0, slots := 0, locals := 20 }
abbrev q_X6_toOf (dC : Nat → ClassId) (dI : Nat → Nat → Nat) (cI cJ cZ : ClassId) (R : Int32) (A : Nat → Prop) : Array Value → State → Outcome → State → Prop := va_Qi (fun (r : Int32) (_ : Unit) => R = r) (fun (u : Unit) (t : State) => va_P (dC, dI) vwCl [] t.heap ∧ va_K (dC, dI) vwCl [(cI, .int), (cJ, .long), (cZ, .boolean)] t ∧ va_D A []) A
set_option maxHeartbeats 4000000 in
set_option maxRecDepth 100000 in
theorem k_X6_toOf (l : Launch) (dC : Nat → ClassId) (dI : Nat → Nat → Nat) (cI cJ cZ : ClassId) (sz : Nat) (a0 : Int32) (N : Nat) (R : Int32) (hf : f_X6_toOf N a0 = some R) : Met l yX6_toOf wsX6_toOf (rm_X6_toOf) (va_Pc [.int a0] (fun U => U.heap.size = sz ∧ va_P (dC, dI) vwCl [] U.heap ∧ va_K (dC, dI) vwCl [(cI, .int), (cJ, .long), (cZ, .boolean)] U ∧ va_D (fun _ => True) [])) (q_X6_toOf dC dI cI cJ cZ  R (va_A [] sz)) 0 0 (va_A [] sz) := by
  refine Met.ofW (cc := cX6_toOf) (maxL := 2) (ret := (some .int)) (by decide) rfl ?_
  intro p e s m args below meth c s₁ B hml hv
  obtain ⟨rfl, hsz, hP, hK, hD0⟩ := hv
  have hx := B.exec
  have hb := B.bytes
  have hr := B.returns
  have hts := atoms_spec (ws := wsX6_toOf) B.pre
  have hown : s.vm.findClass RX6 = some m.cls := findClass_of_methodNamed B.named
  have hlocks := B.notSynchronized
  clear B
  subst hsz
  have hD := hD0.self (sz := s.heap.size)
  clear hD0
  generalize hAe : va_A [] s.heap.size = A at hD ⊢
  have hA : ∀ q : Nat, s.heap.size ≤ q → A q := fun q h => by rw [← hAe]; exact Or.inr h
  clear hAe
  have hS : va_S A s.heap s.heap [] := va_S.rf
  have hl := lv_entry ([.int a0]) (n := 2) (Nat.le_of_ble_eq_true rfl)
  rw [lg_entry_eq]
  generalize (lg_sl ([.int a0]) ++ List.replicate (2 - (lg_sl ([.int a0])).length) Slot.unset).toArray = ls at hl ⊢
  have hl : lv_has ls 2 [(0, .int a0)] := hl
  unfold f_X6_toOf at hf
  refine lv_iload_n hx hb dX6_toOf_0 rfl (lv_at hl 0 rfl) ?_
  refine lv_if_ne (tgt := 7) hx hb dX6_toOf_1 (by decide) (fun c1 => ?_) (fun c1 => ?_)
  · replace hf := dg_f c1 hf
    refine lv_iload_n hx hb dX6_toOf_7 rfl (lv_at hl 0 rfl) ?_
    refine lv_iconst (v := 1) hx hb dX6_toOf_8 (by decide) ?_
    refine lv_isub hx hb dX6_toOf_9 ?_
    refine lv_iconst (v := 3) hx hb dX6_toOf_10 (by decide) ?_
    refine lv_irem hx hb dX6_toOf_11 (by decide) ?_
    refine lv_istore_n (lv' := [(1, .int ((a0 - (1:Int32)) - (a0 - (1:Int32)) / (3:Int32) * (3:Int32))), (0, .int a0)]) hx hb dX6_toOf_12 rfl hl (by decide) rfl (fun ls hl => ?_)
    refine lv_iload_n hx hb dX6_toOf_13 rfl (lv_at hl 0 rfl) ?_
    refine lv_iload_n hx hb dX6_toOf_14 rfl (lv_at hl 1 rfl) ?_
    obtain ⟨x2, hx2, hf⟩ := dg_bind hf
    have hPc : va_P (dC, dI) vwCl [] s.heap := hP.sub [] rfl
    have hDc : va_D A [] := hD.sub [] (by decide) rfl
    have hFc := va_free (wc := []) hD hS hA [] rfl
    refine va_calli (va_runS (As := [.int a0]) (rest := [.int ((a0 - (1:Int32)) - (a0 - (1:Int32)) / (3:Int32) * (3:Int32))]) ⟨hx, hb, hml, hown, hts⟩ (k_X6_fromOf l dC dI cI cJ cZ s.heap.size a0 N x2 hx2) (va_cwS 1 hts gX6_toOf_X6_fromOf rfl rfl rfl hd_X6_fromOf ⟨Nat.le_of_ble_eq_true rfl, Nat.le_of_ble_eq_true rfl⟩) ⟨blind_pc, pre_pc hPc hK hDc⟩ rfl rfl hl.1 rfl (lv_room (Nat.le_of_ble_eq_true rfl)) dX6_toOf_15 ⟨Nat.zero_le _, Nat.zero_le _⟩) hS (fun q _ h => hFc q h) hFc (fun r u t H1 locs eth hvm hw hB hz1 hk1 hS => ?_)
    obtain ⟨hP1, hK1, hD1⟩ := hB
    rw [eth] at hP1
    subst hw
    obtain ⟨hP, hD⟩ := va_join (wr := []) (w1 := []) hP hD [] [] rfl rfl (by decide) (by decide) hk1 hFc hP1 hD1
    clear hP1 hK1 hD1 hPc hDc hFc hk1 hz1 hvm eth
    generalize H1 = H at hP hS ⊢
    have hP : va_P (dC, dI) vwCl [] H := hP
    have hD : va_D A [] := hD
    refine lv_icmp_ge (tgt := 25) hx hb dX6_toOf_18 (by decide) (fun c3 => ?_) (fun c3 => ?_)
    · replace hf := dg_t c3 hf
      refine lv_iload_n hx hb dX6_toOf_25 rfl (lv_at hl 0 rfl) ?_
      refine lv_iconst (v := 1) hx hb dX6_toOf_26 (by decide) ?_
      refine lv_iadd hx hb dX6_toOf_27 ?_
      have he := Option.some.inj hf
      have hP9 := hP
      have hD9 := hD
      exact W.iret (v := (((a0 - (1:Int32)) - (a0 - (1:Int32)) / (3:Int32) * (3:Int32)) + (1:Int32))) hx hb hr (fun t eth hW => ⟨⟨(((a0 - (1:Int32)) - (a0 - (1:Int32)) / (3:Int32) * (3:Int32)) + (1:Int32)), (), rfl, he.symm, by rw [eth]; exact hP9, va_K.moved hW.alike hK, hD9⟩, hS.F eth⟩) hS.2.2 dX6_toOf_28
    · replace hf := dg_f c3 hf
      refine lv_iload_n hx hb dX6_toOf_21 rfl (lv_at hl 0 rfl) ?_
      refine lv_goto (tgt := 28) hx hb dX6_toOf_22 (by decide) ?_
      have he := Option.some.inj hf
      have hP9 := hP
      have hD9 := hD
      exact W.iret (v := ((a0 - (1:Int32)) - (a0 - (1:Int32)) / (3:Int32) * (3:Int32))) hx hb hr (fun t eth hW => ⟨⟨((a0 - (1:Int32)) - (a0 - (1:Int32)) / (3:Int32) * (3:Int32)), (), rfl, he.symm, by rw [eth]; exact hP9, va_K.moved hW.alike hK, hD9⟩, hS.F eth⟩) hS.2.2 dX6_toOf_28
  · replace hf := dg_t c1 hf
    refine lv_bipush (v := -9) hx hb dX6_toOf_4 (by decide) ?_
    have he := Option.some.inj hf
    have hP9 := hP
    have hD9 := hD
    exact W.iret (v := (-9:Int32)) hx hb hr (fun t eth hW => ⟨⟨(-9:Int32), (), rfl, he.symm, by rw [eth]; exact hP9, va_K.moved hW.alike hK, hD9⟩, hS.F eth⟩) hS.2.2 dX6_toOf_6
theorem hd_X6_isHabit : yX6_isHabit.cls = RX6 ∧ yX6_isHabit.cls ≠ "java/lang/invoke/MethodHandle" ∧ yX6_isHabit.cls ≠ "java/lang/invoke/VarHandle" ∧ (parseMethodDescriptor yX6_isHabit.desc).map (fun d => d.parameters.length) = some 2 := by decide +kernel
abbrev rm_X6_isHabit : Room := { frames := 3, cells := 0, slots := 0, locals := 69 }
abbrev q_X6_isHabit (dC : Nat → ClassId) (dI : Nat → Nat → Nat) (cI cJ cZ : ClassId) (ht ht_drops ht_tires ht_now ht_told ht_text ht_pages ht_row ht_alike ht_table ht_keys ht_own ht_isKept ht_kept : Nat) (vt_clerks : Int32) (vt_length : Int32) (vt_acts : Int32) (vt_next : Int32) (vt_found : Int32) (vt_seed : Int64) (vt_now : Nat → Int32) (vt_told : Nat → Int32) (R : Int32) (A : Nat → Prop) : Array Value → State → Outcome → State → Prop := va_Qi (fun (r : Int32) (_ : Unit) => R = r) (fun (u : Unit) (t : State) => va_P (dC, dI) vwCl [(ht, .inr (5, [.int vt_clerks, .ref ht_drops, .ref ht_tires, .ref ht_now, .ref ht_told, .ref ht_text, .int vt_length, .ref ht_pages, .int vt_acts, .int vt_next, .ref ht_row, .int vt_found, .ref ht_alike, .ref ht_table, .ref ht_keys, .ref ht_own, .long vt_seed, .ref ht_isKept, .ref ht_kept])), (ht_now, .inl (cI, 13, .inl vt_now)), (ht_told, .inl (cI, 4, .inl vt_told))] t.heap ∧ va_K (dC, dI) vwCl [(cI, .int), (cJ, .long), (cZ, .boolean)] t ∧ va_D A [(ht, .inr (5, [.int vt_clerks, .ref ht_drops, .ref ht_tires, .ref ht_now, .ref ht_told, .ref ht_text, .int vt_length, .ref ht_pages, .int vt_acts, .int vt_next, .ref ht_row, .int vt_found, .ref ht_alike, .ref ht_table, .ref ht_keys, .ref ht_own, .long vt_seed, .ref ht_isKept, .ref ht_kept])), (ht_now, .inl (cI, 13, .inl vt_now)), (ht_told, .inl (cI, 4, .inl vt_told))]) A
set_option maxHeartbeats 4000000 in
set_option maxRecDepth 100000 in
theorem k_X6_isHabit (l : Launch) (dC : Nat → ClassId) (dI : Nat → Nat → Nat) (cI cJ cZ : ClassId) (sz : Nat) (ht ht_drops ht_tires ht_now ht_told ht_text ht_pages ht_row ht_alike ht_table ht_keys ht_own ht_isKept ht_kept : Nat) (a1 : Int32) (a2 : Int32) (vt_clerks : Int32) (vt_length : Int32) (vt_acts : Int32) (vt_next : Int32) (vt_found : Int32) (vt_seed : Int64) (vt_now : Nat → Int32) (vt_told : Nat → Int32) (N : Nat) (R : Int32) (hf : f_X6_isHabit N a1 a2 vt_now vt_told = some R) : Met l yX6_isHabit wsX6_isHabit (rm_X6_isHabit) (va_Pc [.ref ht, .int a1, .int a2] (fun U => U.heap.size = sz ∧ va_P (dC, dI) vwCl [(ht, .inr (5, [.int vt_clerks, .ref ht_drops, .ref ht_tires, .ref ht_now, .ref ht_told, .ref ht_text, .int vt_length, .ref ht_pages, .int vt_acts, .int vt_next, .ref ht_row, .int vt_found, .ref ht_alike, .ref ht_table, .ref ht_keys, .ref ht_own, .long vt_seed, .ref ht_isKept, .ref ht_kept])), (ht_now, .inl (cI, 13, .inl vt_now)), (ht_told, .inl (cI, 4, .inl vt_told))] U.heap ∧ va_K (dC, dI) vwCl [(cI, .int), (cJ, .long), (cZ, .boolean)] U ∧ va_D (fun _ => True) [(ht, .inr (5, [.int vt_clerks, .ref ht_drops, .ref ht_tires, .ref ht_now, .ref ht_told, .ref ht_text, .int vt_length, .ref ht_pages, .int vt_acts, .int vt_next, .ref ht_row, .int vt_found, .ref ht_alike, .ref ht_table, .ref ht_keys, .ref ht_own, .long vt_seed, .ref ht_isKept, .ref ht_kept])), (ht_now, .inl (cI, 13, .inl vt_now)), (ht_told, .inl (cI, 4, .inl vt_told))])) (q_X6_isHabit dC dI cI cJ cZ ht ht_drops ht_tires ht_now ht_told ht_text ht_pages ht_row ht_alike ht_table ht_keys ht_own ht_isKept ht_kept vt_clerks vt_length vt_acts vt_next vt_found vt_seed vt_now vt_told R (va_A [(ht, .inr (5, [.int vt_clerks, .ref ht_drops, .ref ht_tires, .ref ht_now, .ref ht_told, .ref ht_text, .int vt_length, .ref ht_pages, .int vt_acts, .int vt_next, .ref ht_row, .int vt_found, .ref ht_alike, .ref ht_table, .ref ht_keys, .ref ht_own, .long vt_seed, .ref ht_isKept, .ref ht_kept])), (ht_now, .inl (cI, 13, .inl vt_now)), (ht_told, .inl (cI, 4, .inl vt_told))] sz)) 0 0 (va_A [(ht, .inr (5, [.int vt_clerks, .ref ht_drops, .ref ht_tires, .ref ht_now, .ref ht_told, .ref ht_text, .int vt_length, .ref ht_pages, .int vt_acts, .int vt_next, .ref ht_row, .int vt_found, .ref ht_alike, .ref ht_table, .ref ht_keys, .ref ht_own, .long vt_seed, .ref ht_isKept, .ref ht_kept])), (ht_now, .inl (cI, 13, .inl vt_now)), (ht_told, .inl (cI, 4, .inl vt_told))] sz) := by
  refine Met.ofW (cc := cX6_isHabit) (maxL := 5) (ret := (some .boolean)) (by decide) rfl ?_
  intro p e s m args below meth c s₁ B hml hv
  obtain ⟨rfl, hsz, hP, hK, hD0⟩ := hv
  have hx := B.exec
  have hb := B.bytes
  have hr := B.returns
  have hts := atoms_spec (ws := wsX6_isHabit) B.pre
  have hown : s.vm.findClass RX6 = some m.cls := findClass_of_methodNamed B.named
  have hlocks := B.notSynchronized
  clear B
  subst hsz
  have hw0 := hts (.fieldLink RX6 16 "ShorthandCourtModel" "now" "[I") (by decide +kernel)
  have hw1 := hts (.fieldLink RX6 19 "ShorthandCourtModel" "told" "[I") (by decide +kernel)
  have hinX6 : ∀ w ∈ u_ws RX6 TX6 19, w ∈ wsX6_isHabit := by decide +kernel
  have hD := hD0.self (sz := s.heap.size)
  clear hD0
  generalize hAe : va_A [(ht, .inr (5, [.int vt_clerks, .ref ht_drops, .ref ht_tires, .ref ht_now, .ref ht_told, .ref ht_text, .int vt_length, .ref ht_pages, .int vt_acts, .int vt_next, .ref ht_row, .int vt_found, .ref ht_alike, .ref ht_table, .ref ht_keys, .ref ht_own, .long vt_seed, .ref ht_isKept, .ref ht_kept])), (ht_now, .inl (cI, 13, .inl vt_now)), (ht_told, .inl (cI, 4, .inl vt_told))] s.heap.size = A at hD ⊢
  have hA : ∀ q : Nat, s.heap.size ≤ q → A q := fun q h => by rw [← hAe]; exact Or.inr h
  clear hAe
  have hS : va_S A s.heap s.heap [] := va_S.rf
  have hl := lv_entry ([.ref ht, .int a1, .int a2]) (n := 5) (Nat.le_of_ble_eq_true rfl)
  rw [lg_entry_eq]
  generalize (lg_sl ([.ref ht, .int a1, .int a2]) ++ List.replicate (5 - (lg_sl ([.ref ht, .int a1, .int a2])).length) Slot.unset).toArray = ls at hl ⊢
  have hl : lv_has ls 5 [(0, .ref ht), (1, .int a1), (2, .int a2)] := hl
  unfold f_X6_isHabit at hf
  refine lv_iload_n hx hb dX6_isHabit_0 rfl (lv_at hl 2 rfl) ?_
  refine lv_bipush (v := 10) hx hb dX6_isHabit_1 (by decide) ?_
  refine lv_idiv hx hb dX6_isHabit_3 (by decide) ?_
  refine lv_bipush (v := 13) hx hb dX6_isHabit_4 (by decide) ?_
  refine lv_irem hx hb dX6_isHabit_6 (by decide) ?_
  refine lv_istore_n (lv' := [(3, .int ((a2 / (10:Int32)) - (a2 / (10:Int32)) / (13:Int32) * (13:Int32))), (0, .ref ht), (1, .int a1), (2, .int a2)]) hx hb dX6_isHabit_7 rfl hl (by decide) rfl (fun ls hl => ?_)
  refine lv_iload_n hx hb dX6_isHabit_8 rfl (lv_at hl 3 rfl) ?_
  refine lv_sipush (v := 130) hx hb dX6_isHabit_9 (by decide) ?_
  refine lv_idiv hx hb dX6_isHabit_12 (by decide) ?_
  refine lv_if_ne (tgt := 21) hx hb dX6_isHabit_13 (by decide) (fun c1 => ?_) (fun c1 => ?_)
  · replace hf := dg_f c1 hf
    refine lv_iload_n hx hb dX6_isHabit_21 rfl (lv_at hl 3 rfl) ?_
    refine lv_sipush (v := 130) hx hb dX6_isHabit_22 (by decide) ?_
    refine lv_idiv hx hb dX6_isHabit_25 (by decide) ?_
    refine lv_iconst (v := 1) hx hb dX6_isHabit_26 (by decide) ?_
    refine lv_isub hx hb dX6_isHabit_27 ?_
    refine lv_istore (lv' := [(4, .int ((a2 / (130:Int32)) - (1:Int32))), (3, .int ((a2 / (10:Int32)) - (a2 / (10:Int32)) / (13:Int32) * (13:Int32))), (0, .ref ht), (1, .int a1), (2, .int a2)]) hx hb dX6_isHabit_28 hl (by decide) rfl (fun ls hl => ?_)
    refine lv_aload_n hx hb dX6_isHabit_30 rfl (lv_at hl 2 rfl) ?_
    refine va_get (D := (dC, dI)) (ci := 5) (v := .ref ht_now) (C := RX6) (T := TX6) (N := 19) hx hb hts hinX6 hown hK hP 0 rfl rfl 3 (by decide) hw0 (fun _ h9 => h9) rfl dX6_isHabit_31 ?_
    refine lv_iconst (v := 0) hx hb dX6_isHabit_34 (by decide) ?_
    refine va_iald hx hb hK hP 1 0 rfl rfl (vp_in_iff.mpr (by decide)) dX6_isHabit_35 ?_
    refine W.eq (g2 := F0 m 36 ls [.int (vt_now 0)]) rfl ?_
    refine lv_iload hx hb dX6_isHabit_36 (lv_at hl 0 rfl) ?_
    refine lv_iload_n hx hb dX6_isHabit_38 rfl (lv_at hl 1 rfl) ?_
    obtain ⟨x2, hx2, hf⟩ := dg_bind hf
    have hPc : va_P (dC, dI) vwCl [] s.heap := hP.sub [] rfl
    have hDc : va_D A [] := hD.sub [] (by decide) rfl
    have hFc := va_free (wc := []) hD hS hA [] rfl
    refine va_calli (va_runS (As := [.int ((a2 / (10:Int32)) - (a2 / (10:Int32)) / (13:Int32) * (13:Int32))]) (rest := [.int ((a2 / (130:Int32)) - (1:Int32)), .int (vt_now 0)]) ⟨hx, hb, hml, hown, hts⟩ (k_X6_fromOf l dC dI cI cJ cZ s.heap.size ((a2 / (10:Int32)) - (a2 / (10:Int32)) / (13:Int32) * (13:Int32)) N x2 hx2) (va_cwS 1 hts gX6_isHabit_X6_fromOf rfl rfl rfl hd_X6_fromOf ⟨Nat.le_of_ble_eq_true rfl, Nat.le_of_ble_eq_true rfl⟩) ⟨blind_pc, pre_pc hPc hK hDc⟩ rfl rfl hl.1 rfl (lv_room (Nat.le_of_ble_eq_true rfl)) dX6_isHabit_39 ⟨Nat.zero_le _, Nat.zero_le _⟩) hS (fun q _ h => hFc q h) hFc (fun r u t H1 locs eth hvm hw hB hz1 hk1 hS => ?_)
    obtain ⟨hP1, hK1, hD1⟩ := hB
    rw [eth] at hP1
    subst hw
    obtain ⟨hP, hD⟩ := va_join (wr := [(ht, .inr (5, [.int vt_clerks, .ref ht_drops, .ref ht_tires, .ref ht_now, .ref ht_told, .ref ht_text, .int vt_length, .ref ht_pages, .int vt_acts, .int vt_next, .ref ht_row, .int vt_found, .ref ht_alike, .ref ht_table, .ref ht_keys, .ref ht_own, .long vt_seed, .ref ht_isKept, .ref ht_kept])), (ht_now, .inl (cI, 13, .inl vt_now)), (ht_told, .inl (cI, 4, .inl vt_told))]) (w1 := []) hP hD [] [0, 1, 2] rfl rfl (by decide) (by decide) hk1 hFc hP1 hD1
    clear hP1 hK1 hD1 hPc hDc hFc hk1 hz1 hvm eth
    generalize H1 = H at hP hS ⊢
    have hP : va_P (dC, dI) vwCl [(ht, .inr (5, [.int vt_clerks, .ref ht_drops, .ref ht_tires, .ref ht_now, .ref ht_told, .ref ht_text, .int vt_length, .ref ht_pages, .int vt_acts, .int vt_next, .ref ht_row, .int vt_found, .ref ht_alike, .ref ht_table, .ref ht_keys, .ref ht_own, .long vt_seed, .ref ht_isKept, .ref ht_kept])), (ht_now, .inl (cI, 13, .inl vt_now)), (ht_told, .inl (cI, 4, .inl vt_told))] H := hP
    have hD : va_D A [(ht, .inr (5, [.int vt_clerks, .ref ht_drops, .ref ht_tires, .ref ht_now, .ref ht_told, .ref ht_text, .int vt_length, .ref ht_pages, .int vt_acts, .int vt_next, .ref ht_row, .int vt_found, .ref ht_alike, .ref ht_table, .ref ht_keys, .ref ht_own, .long vt_seed, .ref ht_isKept, .ref ht_kept])), (ht_now, .inl (cI, 13, .inl vt_now)), (ht_told, .inl (cI, 4, .inl vt_told))] := hD
    refine lv_iload_n hx hb dX6_isHabit_42 rfl (lv_at hl 1 rfl) ?_
    obtain ⟨x3, hx3, hf⟩ := dg_bind hf
    have hPc : va_P (dC, dI) vwCl [] H := hP.sub [] rfl
    have hDc : va_D A [] := hD.sub [] (by decide) rfl
    have hFc := va_free (wc := []) hD hS hA [] rfl
    refine va_calli (va_runS (As := [.int ((a2 / (10:Int32)) - (a2 / (10:Int32)) / (13:Int32) * (13:Int32))]) (rest := [.int x2, .int ((a2 / (130:Int32)) - (1:Int32)), .int (vt_now 0)]) ⟨hx, hb, hml, hown, hts⟩ (k_X6_toOf l dC dI cI cJ cZ H.size ((a2 / (10:Int32)) - (a2 / (10:Int32)) / (13:Int32) * (13:Int32)) N x3 hx3) (va_cwS 1 hts gX6_isHabit_X6_toOf rfl rfl rfl hd_X6_toOf ⟨Nat.le_of_ble_eq_true rfl, Nat.le_of_ble_eq_true rfl⟩) ⟨blind_pc, pre_pc hPc hK hDc⟩ rfl rfl hl.1 rfl (lv_room (Nat.le_of_ble_eq_true rfl)) dX6_isHabit_43 ⟨Nat.zero_le _, Nat.zero_le _⟩) hS (fun q _ h => hFc q h) hFc (fun r u t H1 locs eth hvm hw hB hz1 hk1 hS => ?_)
    obtain ⟨hP1, hK1, hD1⟩ := hB
    rw [eth] at hP1
    subst hw
    obtain ⟨hP, hD⟩ := va_join (wr := [(ht, .inr (5, [.int vt_clerks, .ref ht_drops, .ref ht_tires, .ref ht_now, .ref ht_told, .ref ht_text, .int vt_length, .ref ht_pages, .int vt_acts, .int vt_next, .ref ht_row, .int vt_found, .ref ht_alike, .ref ht_table, .ref ht_keys, .ref ht_own, .long vt_seed, .ref ht_isKept, .ref ht_kept])), (ht_now, .inl (cI, 13, .inl vt_now)), (ht_told, .inl (cI, 4, .inl vt_told))]) (w1 := []) hP hD [] [0, 1, 2] rfl rfl (by decide) (by decide) hk1 hFc hP1 hD1
    clear hP1 hK1 hD1 hPc hDc hFc hk1 hz1 hvm eth
    generalize H1 = H at hP hS ⊢
    have hP : va_P (dC, dI) vwCl [(ht, .inr (5, [.int vt_clerks, .ref ht_drops, .ref ht_tires, .ref ht_now, .ref ht_told, .ref ht_text, .int vt_length, .ref ht_pages, .int vt_acts, .int vt_next, .ref ht_row, .int vt_found, .ref ht_alike, .ref ht_table, .ref ht_keys, .ref ht_own, .long vt_seed, .ref ht_isKept, .ref ht_kept])), (ht_now, .inl (cI, 13, .inl vt_now)), (ht_told, .inl (cI, 4, .inl vt_told))] H := hP
    have hD : va_D A [(ht, .inr (5, [.int vt_clerks, .ref ht_drops, .ref ht_tires, .ref ht_now, .ref ht_told, .ref ht_text, .int vt_length, .ref ht_pages, .int vt_acts, .int vt_next, .ref ht_row, .int vt_found, .ref ht_alike, .ref ht_table, .ref ht_keys, .ref ht_own, .long vt_seed, .ref ht_isKept, .ref ht_kept])), (ht_now, .inl (cI, 13, .inl vt_now)), (ht_told, .inl (cI, 4, .inl vt_told))] := hD
    refine lv_iload_n hx hb dX6_isHabit_46 rfl (lv_at hl 4 rfl) ?_
    refine lv_bipush (v := 10) hx hb dX6_isHabit_47 (by decide) ?_
    refine lv_irem hx hb dX6_isHabit_49 (by decide) ?_
    obtain ⟨x4, hx4, hf⟩ := dg_bind hf
    have hPc : va_P (dC, dI) vwCl [] H := hP.sub [] rfl
    have hDc : va_D A [] := hD.sub [] (by decide) rfl
    have hFc := va_free (wc := []) hD hS hA [] rfl
    refine va_calli (va_runS (As := [.int (vt_now 0), .int ((a2 / (130:Int32)) - (1:Int32)), .int x2, .int x3, .int (a2 - a2 / (10:Int32) * (10:Int32))]) (rest := []) ⟨hx, hb, hml, hown, hts⟩ (k_X6_written l dC dI cI cJ cZ H.size (vt_now 0) ((a2 / (130:Int32)) - (1:Int32)) x2 x3 (a2 - a2 / (10:Int32) * (10:Int32)) N x4 hx4) (va_cwS 5 hts gX6_isHabit_X6_written rfl rfl rfl hd_X6_written ⟨Nat.le_of_ble_eq_true rfl, Nat.le_of_ble_eq_true rfl⟩) ⟨blind_pc, pre_pc hPc hK hDc⟩ rfl rfl hl.1 rfl (lv_room (Nat.le_of_ble_eq_true rfl)) dX6_isHabit_50 ⟨Nat.zero_le _, Nat.zero_le _⟩) hS (fun q _ h => hFc q h) hFc (fun r u t H1 locs eth hvm hw hB hz1 hk1 hS => ?_)
    obtain ⟨hP1, hK1, hD1⟩ := hB
    rw [eth] at hP1
    subst hw
    obtain ⟨hP, hD⟩ := va_join (wr := [(ht, .inr (5, [.int vt_clerks, .ref ht_drops, .ref ht_tires, .ref ht_now, .ref ht_told, .ref ht_text, .int vt_length, .ref ht_pages, .int vt_acts, .int vt_next, .ref ht_row, .int vt_found, .ref ht_alike, .ref ht_table, .ref ht_keys, .ref ht_own, .long vt_seed, .ref ht_isKept, .ref ht_kept])), (ht_now, .inl (cI, 13, .inl vt_now)), (ht_told, .inl (cI, 4, .inl vt_told))]) (w1 := []) hP hD [] [0, 1, 2] rfl rfl (by decide) (by decide) hk1 hFc hP1 hD1
    clear hP1 hK1 hD1 hPc hDc hFc hk1 hz1 hvm eth
    generalize H1 = H at hP hS ⊢
    have hP : va_P (dC, dI) vwCl [(ht, .inr (5, [.int vt_clerks, .ref ht_drops, .ref ht_tires, .ref ht_now, .ref ht_told, .ref ht_text, .int vt_length, .ref ht_pages, .int vt_acts, .int vt_next, .ref ht_row, .int vt_found, .ref ht_alike, .ref ht_table, .ref ht_keys, .ref ht_own, .long vt_seed, .ref ht_isKept, .ref ht_kept])), (ht_now, .inl (cI, 13, .inl vt_now)), (ht_told, .inl (cI, 4, .inl vt_told))] H := hP
    have hD : va_D A [(ht, .inr (5, [.int vt_clerks, .ref ht_drops, .ref ht_tires, .ref ht_now, .ref ht_told, .ref ht_text, .int vt_length, .ref ht_pages, .int vt_acts, .int vt_next, .ref ht_row, .int vt_found, .ref ht_alike, .ref ht_table, .ref ht_keys, .ref ht_own, .long vt_seed, .ref ht_isKept, .ref ht_kept])), (ht_now, .inl (cI, 13, .inl vt_now)), (ht_told, .inl (cI, 4, .inl vt_told))] := hD
    refine lv_aload_n hx hb dX6_isHabit_53 rfl (lv_at hl 2 rfl) ?_
    refine va_get (D := (dC, dI)) (ci := 5) (v := .ref ht_told) (C := RX6) (T := TX6) (N := 19) hx hb hts hinX6 hown hK hP 0 rfl rfl 4 (by decide) hw1 (fun _ h9 => h9) rfl dX6_isHabit_54 ?_
    refine lv_iload_n hx hb dX6_isHabit_57 rfl (lv_at hl 3 rfl) ?_
    obtain ⟨hi5, hf⟩ := dg_ix hf
    refine va_iald hx hb hK hP 2 0 rfl rfl hi5 dX6_isHabit_58 ?_
    refine lv_icmp_ne (tgt := 66) hx hb dX6_isHabit_59 (by decide) (fun c6 => ?_) (fun c6 => ?_)
    · replace hf := dg_f c6 hf
      refine lv_iconst (v := 0) hx hb dX6_isHabit_66 (by decide) ?_
      have he := Option.some.inj hf
      have hP9 := hP
      have hD9 := hD
      exact W.zret (v := (0:Int32)) (ty := .boolean) hx hb hr (by decide) (fun t eth hW => ⟨⟨(0:Int32), (), rfl, he.symm, by rw [eth]; exact hP9, va_K.moved hW.alike hK, hD9⟩, hS.F eth⟩) hS.2.2 dX6_isHabit_67
    · replace hf := dg_t c6 hf
      refine lv_iconst (v := 1) hx hb dX6_isHabit_62 (by decide) ?_
      refine lv_goto (tgt := 67) hx hb dX6_isHabit_63 (by decide) ?_
      have he := Option.some.inj hf
      have hP9 := hP
      have hD9 := hD
      exact W.zret (v := (1:Int32)) (ty := .boolean) hx hb hr (by decide) (fun t eth hW => ⟨⟨(1:Int32), (), rfl, he.symm, by rw [eth]; exact hP9, va_K.moved hW.alike hK, hD9⟩, hS.F eth⟩) hS.2.2 dX6_isHabit_67
  · replace hf := dg_t c1 hf
    refine lv_bipush (v := -9) hx hb dX6_isHabit_16 (by decide) ?_
    refine lv_goto (tgt := 28) hx hb dX6_isHabit_18 (by decide) ?_
    refine lv_istore (lv' := [(4, .int (-9:Int32)), (3, .int ((a2 / (10:Int32)) - (a2 / (10:Int32)) / (13:Int32) * (13:Int32))), (0, .ref ht), (1, .int a1), (2, .int a2)]) hx hb dX6_isHabit_28 hl (by decide) rfl (fun ls hl => ?_)
    refine lv_aload_n hx hb dX6_isHabit_30 rfl (lv_at hl 2 rfl) ?_
    refine va_get (D := (dC, dI)) (ci := 5) (v := .ref ht_now) (C := RX6) (T := TX6) (N := 19) hx hb hts hinX6 hown hK hP 0 rfl rfl 3 (by decide) hw0 (fun _ h9 => h9) rfl dX6_isHabit_31 ?_
    refine lv_iconst (v := 0) hx hb dX6_isHabit_34 (by decide) ?_
    refine va_iald hx hb hK hP 1 0 rfl rfl (vp_in_iff.mpr (by decide)) dX6_isHabit_35 ?_
    refine W.eq (g2 := F0 m 36 ls [.int (vt_now 0)]) rfl ?_
    refine lv_iload hx hb dX6_isHabit_36 (lv_at hl 0 rfl) ?_
    refine lv_iload_n hx hb dX6_isHabit_38 rfl (lv_at hl 1 rfl) ?_
    obtain ⟨x7, hx7, hf⟩ := dg_bind hf
    have hPc : va_P (dC, dI) vwCl [] s.heap := hP.sub [] rfl
    have hDc : va_D A [] := hD.sub [] (by decide) rfl
    have hFc := va_free (wc := []) hD hS hA [] rfl
    refine va_calli (va_runS (As := [.int ((a2 / (10:Int32)) - (a2 / (10:Int32)) / (13:Int32) * (13:Int32))]) (rest := [.int (-9:Int32), .int (vt_now 0)]) ⟨hx, hb, hml, hown, hts⟩ (k_X6_fromOf l dC dI cI cJ cZ s.heap.size ((a2 / (10:Int32)) - (a2 / (10:Int32)) / (13:Int32) * (13:Int32)) N x7 hx7) (va_cwS 1 hts gX6_isHabit_X6_fromOf rfl rfl rfl hd_X6_fromOf ⟨Nat.le_of_ble_eq_true rfl, Nat.le_of_ble_eq_true rfl⟩) ⟨blind_pc, pre_pc hPc hK hDc⟩ rfl rfl hl.1 rfl (lv_room (Nat.le_of_ble_eq_true rfl)) dX6_isHabit_39 ⟨Nat.zero_le _, Nat.zero_le _⟩) hS (fun q _ h => hFc q h) hFc (fun r u t H1 locs eth hvm hw hB hz1 hk1 hS => ?_)
    obtain ⟨hP1, hK1, hD1⟩ := hB
    rw [eth] at hP1
    subst hw
    obtain ⟨hP, hD⟩ := va_join (wr := [(ht, .inr (5, [.int vt_clerks, .ref ht_drops, .ref ht_tires, .ref ht_now, .ref ht_told, .ref ht_text, .int vt_length, .ref ht_pages, .int vt_acts, .int vt_next, .ref ht_row, .int vt_found, .ref ht_alike, .ref ht_table, .ref ht_keys, .ref ht_own, .long vt_seed, .ref ht_isKept, .ref ht_kept])), (ht_now, .inl (cI, 13, .inl vt_now)), (ht_told, .inl (cI, 4, .inl vt_told))]) (w1 := []) hP hD [] [0, 1, 2] rfl rfl (by decide) (by decide) hk1 hFc hP1 hD1
    clear hP1 hK1 hD1 hPc hDc hFc hk1 hz1 hvm eth
    generalize H1 = H at hP hS ⊢
    have hP : va_P (dC, dI) vwCl [(ht, .inr (5, [.int vt_clerks, .ref ht_drops, .ref ht_tires, .ref ht_now, .ref ht_told, .ref ht_text, .int vt_length, .ref ht_pages, .int vt_acts, .int vt_next, .ref ht_row, .int vt_found, .ref ht_alike, .ref ht_table, .ref ht_keys, .ref ht_own, .long vt_seed, .ref ht_isKept, .ref ht_kept])), (ht_now, .inl (cI, 13, .inl vt_now)), (ht_told, .inl (cI, 4, .inl vt_told))] H := hP
    have hD : va_D A [(ht, .inr (5, [.int vt_clerks, .ref ht_drops, .ref ht_tires, .ref ht_now, .ref ht_told, .ref ht_text, .int vt_length, .ref ht_pages, .int vt_acts, .int vt_next, .ref ht_row, .int vt_found, .ref ht_alike, .ref ht_table, .ref ht_keys, .ref ht_own, .long vt_seed, .ref ht_isKept, .ref ht_kept])), (ht_now, .inl (cI, 13, .inl vt_now)), (ht_told, .inl (cI, 4, .inl vt_told))] := hD
    refine lv_iload_n hx hb dX6_isHabit_42 rfl (lv_at hl 1 rfl) ?_
    obtain ⟨x8, hx8, hf⟩ := dg_bind hf
    have hPc : va_P (dC, dI) vwCl [] H := hP.sub [] rfl
    have hDc : va_D A [] := hD.sub [] (by decide) rfl
    have hFc := va_free (wc := []) hD hS hA [] rfl
    refine va_calli (va_runS (As := [.int ((a2 / (10:Int32)) - (a2 / (10:Int32)) / (13:Int32) * (13:Int32))]) (rest := [.int x7, .int (-9:Int32), .int (vt_now 0)]) ⟨hx, hb, hml, hown, hts⟩ (k_X6_toOf l dC dI cI cJ cZ H.size ((a2 / (10:Int32)) - (a2 / (10:Int32)) / (13:Int32) * (13:Int32)) N x8 hx8) (va_cwS 1 hts gX6_isHabit_X6_toOf rfl rfl rfl hd_X6_toOf ⟨Nat.le_of_ble_eq_true rfl, Nat.le_of_ble_eq_true rfl⟩) ⟨blind_pc, pre_pc hPc hK hDc⟩ rfl rfl hl.1 rfl (lv_room (Nat.le_of_ble_eq_true rfl)) dX6_isHabit_43 ⟨Nat.zero_le _, Nat.zero_le _⟩) hS (fun q _ h => hFc q h) hFc (fun r u t H1 locs eth hvm hw hB hz1 hk1 hS => ?_)
    obtain ⟨hP1, hK1, hD1⟩ := hB
    rw [eth] at hP1
    subst hw
    obtain ⟨hP, hD⟩ := va_join (wr := [(ht, .inr (5, [.int vt_clerks, .ref ht_drops, .ref ht_tires, .ref ht_now, .ref ht_told, .ref ht_text, .int vt_length, .ref ht_pages, .int vt_acts, .int vt_next, .ref ht_row, .int vt_found, .ref ht_alike, .ref ht_table, .ref ht_keys, .ref ht_own, .long vt_seed, .ref ht_isKept, .ref ht_kept])), (ht_now, .inl (cI, 13, .inl vt_now)), (ht_told, .inl (cI, 4, .inl vt_told))]) (w1 := []) hP hD [] [0, 1, 2] rfl rfl (by decide) (by decide) hk1 hFc hP1 hD1
    clear hP1 hK1 hD1 hPc hDc hFc hk1 hz1 hvm eth
    generalize H1 = H at hP hS ⊢
    have hP : va_P (dC, dI) vwCl [(ht, .inr (5, [.int vt_clerks, .ref ht_drops, .ref ht_tires, .ref ht_now, .ref ht_told, .ref ht_text, .int vt_length, .ref ht_pages, .int vt_acts, .int vt_next, .ref ht_row, .int vt_found, .ref ht_alike, .ref ht_table, .ref ht_keys, .ref ht_own, .long vt_seed, .ref ht_isKept, .ref ht_kept])), (ht_now, .inl (cI, 13, .inl vt_now)), (ht_told, .inl (cI, 4, .inl vt_told))] H := hP
    have hD : va_D A [(ht, .inr (5, [.int vt_clerks, .ref ht_drops, .ref ht_tires, .ref ht_now, .ref ht_told, .ref ht_text, .int vt_length, .ref ht_pages, .int vt_acts, .int vt_next, .ref ht_row, .int vt_found, .ref ht_alike, .ref ht_table, .ref ht_keys, .ref ht_own, .long vt_seed, .ref ht_isKept, .ref ht_kept])), (ht_now, .inl (cI, 13, .inl vt_now)), (ht_told, .inl (cI, 4, .inl vt_told))] := hD
    refine lv_iload_n hx hb dX6_isHabit_46 rfl (lv_at hl 4 rfl) ?_
    refine lv_bipush (v := 10) hx hb dX6_isHabit_47 (by decide) ?_
    refine lv_irem hx hb dX6_isHabit_49 (by decide) ?_
    obtain ⟨x9, hx9, hf⟩ := dg_bind hf
    have hPc : va_P (dC, dI) vwCl [] H := hP.sub [] rfl
    have hDc : va_D A [] := hD.sub [] (by decide) rfl
    have hFc := va_free (wc := []) hD hS hA [] rfl
    refine va_calli (va_runS (As := [.int (vt_now 0), .int (-9:Int32), .int x7, .int x8, .int (a2 - a2 / (10:Int32) * (10:Int32))]) (rest := []) ⟨hx, hb, hml, hown, hts⟩ (k_X6_written l dC dI cI cJ cZ H.size (vt_now 0) (-9:Int32) x7 x8 (a2 - a2 / (10:Int32) * (10:Int32)) N x9 hx9) (va_cwS 5 hts gX6_isHabit_X6_written rfl rfl rfl hd_X6_written ⟨Nat.le_of_ble_eq_true rfl, Nat.le_of_ble_eq_true rfl⟩) ⟨blind_pc, pre_pc hPc hK hDc⟩ rfl rfl hl.1 rfl (lv_room (Nat.le_of_ble_eq_true rfl)) dX6_isHabit_50 ⟨Nat.zero_le _, Nat.zero_le _⟩) hS (fun q _ h => hFc q h) hFc (fun r u t H1 locs eth hvm hw hB hz1 hk1 hS => ?_)
    obtain ⟨hP1, hK1, hD1⟩ := hB
    rw [eth] at hP1
    subst hw
    obtain ⟨hP, hD⟩ := va_join (wr := [(ht, .inr (5, [.int vt_clerks, .ref ht_drops, .ref ht_tires, .ref ht_now, .ref ht_told, .ref ht_text, .int vt_length, .ref ht_pages, .int vt_acts, .int vt_next, .ref ht_row, .int vt_found, .ref ht_alike, .ref ht_table, .ref ht_keys, .ref ht_own, .long vt_seed, .ref ht_isKept, .ref ht_kept])), (ht_now, .inl (cI, 13, .inl vt_now)), (ht_told, .inl (cI, 4, .inl vt_told))]) (w1 := []) hP hD [] [0, 1, 2] rfl rfl (by decide) (by decide) hk1 hFc hP1 hD1
    clear hP1 hK1 hD1 hPc hDc hFc hk1 hz1 hvm eth
    generalize H1 = H at hP hS ⊢
    have hP : va_P (dC, dI) vwCl [(ht, .inr (5, [.int vt_clerks, .ref ht_drops, .ref ht_tires, .ref ht_now, .ref ht_told, .ref ht_text, .int vt_length, .ref ht_pages, .int vt_acts, .int vt_next, .ref ht_row, .int vt_found, .ref ht_alike, .ref ht_table, .ref ht_keys, .ref ht_own, .long vt_seed, .ref ht_isKept, .ref ht_kept])), (ht_now, .inl (cI, 13, .inl vt_now)), (ht_told, .inl (cI, 4, .inl vt_told))] H := hP
    have hD : va_D A [(ht, .inr (5, [.int vt_clerks, .ref ht_drops, .ref ht_tires, .ref ht_now, .ref ht_told, .ref ht_text, .int vt_length, .ref ht_pages, .int vt_acts, .int vt_next, .ref ht_row, .int vt_found, .ref ht_alike, .ref ht_table, .ref ht_keys, .ref ht_own, .long vt_seed, .ref ht_isKept, .ref ht_kept])), (ht_now, .inl (cI, 13, .inl vt_now)), (ht_told, .inl (cI, 4, .inl vt_told))] := hD
    refine lv_aload_n hx hb dX6_isHabit_53 rfl (lv_at hl 2 rfl) ?_
    refine va_get (D := (dC, dI)) (ci := 5) (v := .ref ht_told) (C := RX6) (T := TX6) (N := 19) hx hb hts hinX6 hown hK hP 0 rfl rfl 4 (by decide) hw1 (fun _ h9 => h9) rfl dX6_isHabit_54 ?_
    refine lv_iload_n hx hb dX6_isHabit_57 rfl (lv_at hl 3 rfl) ?_
    obtain ⟨hi10, hf⟩ := dg_ix hf
    refine va_iald hx hb hK hP 2 0 rfl rfl hi10 dX6_isHabit_58 ?_
    refine lv_icmp_ne (tgt := 66) hx hb dX6_isHabit_59 (by decide) (fun c11 => ?_) (fun c11 => ?_)
    · replace hf := dg_f c11 hf
      refine lv_iconst (v := 0) hx hb dX6_isHabit_66 (by decide) ?_
      have he := Option.some.inj hf
      have hP9 := hP
      have hD9 := hD
      exact W.zret (v := (0:Int32)) (ty := .boolean) hx hb hr (by decide) (fun t eth hW => ⟨⟨(0:Int32), (), rfl, he.symm, by rw [eth]; exact hP9, va_K.moved hW.alike hK, hD9⟩, hS.F eth⟩) hS.2.2 dX6_isHabit_67
    · replace hf := dg_t c11 hf
      refine lv_iconst (v := 1) hx hb dX6_isHabit_62 (by decide) ?_
      refine lv_goto (tgt := 67) hx hb dX6_isHabit_63 (by decide) ?_
      have he := Option.some.inj hf
      have hP9 := hP
      have hD9 := hD
      exact W.zret (v := (1:Int32)) (ty := .boolean) hx hb hr (by decide) (fun t eth hW => ⟨⟨(1:Int32), (), rfl, he.symm, by rw [eth]; exact hP9, va_K.moved hW.alike hK, hD9⟩, hS.F eth⟩) hS.2.2 dX6_isHabit_67
theorem hd_X6_habits : yX6_habits.cls = RX6 ∧ yX6_habits.cls ≠ "java/lang/invoke/MethodHandle" ∧ yX6_habits.cls ≠ "java/lang/invoke/VarHandle" ∧ (parseMethodDescriptor yX6_habits.desc).map (fun d => d.parameters.length) = some 1 := by decide +kernel
abbrev rm_X6_habits : Room := { frames := 4, cells := 0, slots := 0, locals := 93 }
abbrev q_X6_habits (dC : Nat → ClassId) (dI : Nat → Nat → Nat) (cI cJ cZ : ClassId) (ht ht_drops ht_tires ht_now ht_told ht_text ht_pages ht_row ht_alike ht_table ht_keys ht_own ht_isKept ht_kept : Nat) (vt_clerks : Int32) (vt_length : Int32) (vt_acts : Int32) (vt_next : Int32) (vt_found : Int32) (vt_seed : Int64) (vt_now : Nat → Int32) (vt_told : Nat → Int32) (R : Int32) (A : Nat → Prop) : Array Value → State → Outcome → State → Prop := va_Qi (fun (r : Int32) (_ : Unit) => R = r) (fun (u : Unit) (t : State) => va_P (dC, dI) vwCl [(ht, .inr (5, [.int vt_clerks, .ref ht_drops, .ref ht_tires, .ref ht_now, .ref ht_told, .ref ht_text, .int vt_length, .ref ht_pages, .int vt_acts, .int vt_next, .ref ht_row, .int vt_found, .ref ht_alike, .ref ht_table, .ref ht_keys, .ref ht_own, .long vt_seed, .ref ht_isKept, .ref ht_kept])), (ht_now, .inl (cI, 13, .inl vt_now)), (ht_told, .inl (cI, 4, .inl vt_told))] t.heap ∧ va_K (dC, dI) vwCl [(cI, .int), (cJ, .long), (cZ, .boolean)] t ∧ va_D A [(ht, .inr (5, [.int vt_clerks, .ref ht_drops, .ref ht_tires, .ref ht_now, .ref ht_told, .ref ht_text, .int vt_length, .ref ht_pages, .int vt_acts, .int vt_next, .ref ht_row, .int vt_found, .ref ht_alike, .ref ht_table, .ref ht_keys, .ref ht_own, .long vt_seed, .ref ht_isKept, .ref ht_kept])), (ht_now, .inl (cI, 13, .inl vt_now)), (ht_told, .inl (cI, 4, .inl vt_told))]) A
set_option maxHeartbeats 4000000 in
set_option maxRecDepth 100000 in
theorem k_X6_habits (l : Launch) (dC : Nat → ClassId) (dI : Nat → Nat → Nat) (cI cJ cZ : ClassId) (sz : Nat) (ht ht_drops ht_tires ht_now ht_told ht_text ht_pages ht_row ht_alike ht_table ht_keys ht_own ht_isKept ht_kept : Nat) (a1 : Int32) (vt_clerks : Int32) (vt_length : Int32) (vt_acts : Int32) (vt_next : Int32) (vt_found : Int32) (vt_seed : Int64) (vt_now : Nat → Int32) (vt_told : Nat → Int32) (N : Nat) (R : Int32) (hf : f_X6_habits N a1 vt_clerks vt_now vt_told = some R) : Met l yX6_habits wsX6_habits (rm_X6_habits) (va_Pc [.ref ht, .int a1] (fun U => U.heap.size = sz ∧ va_P (dC, dI) vwCl [(ht, .inr (5, [.int vt_clerks, .ref ht_drops, .ref ht_tires, .ref ht_now, .ref ht_told, .ref ht_text, .int vt_length, .ref ht_pages, .int vt_acts, .int vt_next, .ref ht_row, .int vt_found, .ref ht_alike, .ref ht_table, .ref ht_keys, .ref ht_own, .long vt_seed, .ref ht_isKept, .ref ht_kept])), (ht_now, .inl (cI, 13, .inl vt_now)), (ht_told, .inl (cI, 4, .inl vt_told))] U.heap ∧ va_K (dC, dI) vwCl [(cI, .int), (cJ, .long), (cZ, .boolean)] U ∧ va_D (fun _ => True) [(ht, .inr (5, [.int vt_clerks, .ref ht_drops, .ref ht_tires, .ref ht_now, .ref ht_told, .ref ht_text, .int vt_length, .ref ht_pages, .int vt_acts, .int vt_next, .ref ht_row, .int vt_found, .ref ht_alike, .ref ht_table, .ref ht_keys, .ref ht_own, .long vt_seed, .ref ht_isKept, .ref ht_kept])), (ht_now, .inl (cI, 13, .inl vt_now)), (ht_told, .inl (cI, 4, .inl vt_told))])) (q_X6_habits dC dI cI cJ cZ ht ht_drops ht_tires ht_now ht_told ht_text ht_pages ht_row ht_alike ht_table ht_keys ht_own ht_isKept ht_kept vt_clerks vt_length vt_acts vt_next vt_found vt_seed vt_now vt_told R (va_A [(ht, .inr (5, [.int vt_clerks, .ref ht_drops, .ref ht_tires, .ref ht_now, .ref ht_told, .ref ht_text, .int vt_length, .ref ht_pages, .int vt_acts, .int vt_next, .ref ht_row, .int vt_found, .ref ht_alike, .ref ht_table, .ref ht_keys, .ref ht_own, .long vt_seed, .ref ht_isKept, .ref ht_kept])), (ht_now, .inl (cI, 13, .inl vt_now)), (ht_told, .inl (cI, 4, .inl vt_told))] sz)) 0 0 (va_A [(ht, .inr (5, [.int vt_clerks, .ref ht_drops, .ref ht_tires, .ref ht_now, .ref ht_told, .ref ht_text, .int vt_length, .ref ht_pages, .int vt_acts, .int vt_next, .ref ht_row, .int vt_found, .ref ht_alike, .ref ht_table, .ref ht_keys, .ref ht_own, .long vt_seed, .ref ht_isKept, .ref ht_kept])), (ht_now, .inl (cI, 13, .inl vt_now)), (ht_told, .inl (cI, 4, .inl vt_told))] sz) := by
  refine Met.ofW (cc := cX6_habits) (maxL := 4) (ret := (some .int)) (by decide) rfl ?_
  intro p e s m args below meth c s₁ B hml hv
  obtain ⟨rfl, hsz, hP, hK, hD0⟩ := hv
  have hx := B.exec
  have hb := B.bytes
  have hr := B.returns
  have hts := atoms_spec (ws := wsX6_habits) B.pre
  have hown : s.vm.findClass RX6 = some m.cls := findClass_of_methodNamed B.named
  have hlocks := B.notSynchronized
  clear B
  subst hsz
  have hw0 := hts (.fieldLink RX6 19 "ShorthandCourtModel" "told" "[I") (by decide +kernel)
  have hinX6 : ∀ w ∈ u_ws RX6 TX6 19, w ∈ wsX6_habits := by decide +kernel
  have hD := hD0.self (sz := s.heap.size)
  clear hD0
  generalize hAe : va_A [(ht, .inr (5, [.int vt_clerks, .ref ht_drops, .ref ht_tires, .ref ht_now, .ref ht_told, .ref ht_text, .int vt_length, .ref ht_pages, .int vt_acts, .int vt_next, .ref ht_row, .int vt_found, .ref ht_alike, .ref ht_table, .ref ht_keys, .ref ht_own, .long vt_seed, .ref ht_isKept, .ref ht_kept])), (ht_now, .inl (cI, 13, .inl vt_now)), (ht_told, .inl (cI, 4, .inl vt_told))] s.heap.size = A at hD ⊢
  have hA : ∀ q : Nat, s.heap.size ≤ q → A q := fun q h => by rw [← hAe]; exact Or.inr h
  clear hAe
  have hS : va_S A s.heap s.heap [] := va_S.rf
  have hl := lv_entry ([.ref ht, .int a1]) (n := 4) (Nat.le_of_ble_eq_true rfl)
  rw [lg_entry_eq]
  generalize (lg_sl ([.ref ht, .int a1]) ++ List.replicate (4 - (lg_sl ([.ref ht, .int a1])).length) Slot.unset).toArray = ls at hl ⊢
  have hl : lv_has ls 4 [(0, .ref ht), (1, .int a1)] := hl
  unfold f_X6_habits at hf
  refine lv_aload_n hx hb dX6_habits_0 rfl (lv_at hl 0 rfl) ?_
  refine lv_iload_n hx hb dX6_habits_1 rfl (lv_at hl 1 rfl) ?_
  obtain ⟨x1, hx1, hf⟩ := dg_bind hf
  have hPc : va_P (dC, dI) vwCl [(ht, .inr (5, [.int vt_clerks, .ref ht_drops, .ref ht_tires, .ref ht_now, .ref ht_told, .ref ht_text, .int vt_length, .ref ht_pages, .int vt_acts, .int vt_next, .ref ht_row, .int vt_found, .ref ht_alike, .ref ht_table, .ref ht_keys, .ref ht_own, .long vt_seed, .ref ht_isKept, .ref ht_kept]))] s.heap := hP.sub [0] rfl
  have hDc : va_D A [(ht, .inr (5, [.int vt_clerks, .ref ht_drops, .ref ht_tires, .ref ht_now, .ref ht_told, .ref ht_text, .int vt_length, .ref ht_pages, .int vt_acts, .int vt_next, .ref ht_row, .int vt_found, .ref ht_alike, .ref ht_table, .ref ht_keys, .ref ht_own, .long vt_seed, .ref ht_isKept, .ref ht_kept]))] := hD.sub [0] (by decide) rfl
  have hFc := va_free (wc := [(ht, .inr (5, [.int vt_clerks, .ref ht_drops, .ref ht_tires, .ref ht_now, .ref ht_told, .ref ht_text, .int vt_length, .ref ht_pages, .int vt_acts, .int vt_next, .ref ht_row, .int vt_found, .ref ht_alike, .ref ht_table, .ref ht_keys, .ref ht_own, .long vt_seed, .ref ht_isKept, .ref ht_kept]))]) hD hS hA [0] rfl
  refine va_calli (va_runV (As := [.int a1]) (rest := []) ⟨hx, hb, hml, hown, hts⟩ (k_X6_isClerk l dC dI cI cJ cZ s.heap.size ht ht_drops ht_tires ht_now ht_told ht_text ht_pages ht_row ht_alike ht_table ht_keys ht_own ht_isKept ht_kept a1 vt_clerks vt_length vt_acts vt_next vt_found vt_seed N x1 hx1) (cwV 1 hts gX6_habits_X6_isClerk rfl rfl rfl hd_X6_isClerk ⟨Nat.le_of_ble_eq_true rfl, Nat.le_of_ble_eq_true rfl⟩) ⟨blind_pc, va_recv hK hPc (ci := 5) (q0 := 0) rfl rfl, pre_pc hPc hK hDc⟩ rfl rfl hl.1 rfl (lv_room (Nat.le_of_ble_eq_true rfl)) dX6_habits_2 ⟨Nat.zero_le _, Nat.zero_le _⟩) hS (fun q _ h => hFc q h) hFc (fun r u t H1 locs eth hvm hw hB hz1 hk1 hS => ?_)
  obtain ⟨hP1, hK1, hD1⟩ := hB
  rw [eth] at hP1
  subst hw
  obtain ⟨hP, hD⟩ := va_join (wr := [(ht_now, .inl (cI, 13, .inl vt_now)), (ht_told, .inl (cI, 4, .inl vt_told))]) (w1 := [(ht, .inr (5, [.int vt_clerks, .ref ht_drops, .ref ht_tires, .ref ht_now, .ref ht_told, .ref ht_text, .int vt_length, .ref ht_pages, .int vt_acts, .int vt_next, .ref ht_row, .int vt_found, .ref ht_alike, .ref ht_table, .ref ht_keys, .ref ht_own, .long vt_seed, .ref ht_isKept, .ref ht_kept]))]) hP hD [0] [1, 2] rfl rfl (by decide) (by decide) hk1 hFc hP1 hD1
  clear hP1 hK1 hD1 hPc hDc hFc hk1 hz1 hvm eth
  generalize H1 = H at hP hS ⊢
  have hP : va_P (dC, dI) vwCl [(ht_now, .inl (cI, 13, .inl vt_now)), (ht_told, .inl (cI, 4, .inl vt_told)), (ht, .inr (5, [.int vt_clerks, .ref ht_drops, .ref ht_tires, .ref ht_now, .ref ht_told, .ref ht_text, .int vt_length, .ref ht_pages, .int vt_acts, .int vt_next, .ref ht_row, .int vt_found, .ref ht_alike, .ref ht_table, .ref ht_keys, .ref ht_own, .long vt_seed, .ref ht_isKept, .ref ht_kept]))] H := hP
  have hD : va_D A [(ht_now, .inl (cI, 13, .inl vt_now)), (ht_told, .inl (cI, 4, .inl vt_told)), (ht, .inr (5, [.int vt_clerks, .ref ht_drops, .ref ht_tires, .ref ht_now, .ref ht_told, .ref ht_text, .int vt_length, .ref ht_pages, .int vt_acts, .int vt_next, .ref ht_row, .int vt_found, .ref ht_alike, .ref ht_table, .ref ht_keys, .ref ht_own, .long vt_seed, .ref ht_isKept, .ref ht_kept]))] := hD
  refine lv_if_ne (tgt := 10) hx hb dX6_habits_5 (by decide) (fun c2 => ?_) (fun c2 => ?_)
  · replace hf := dg_f c2 hf
    refine lv_aload_n hx hb dX6_habits_10 rfl (lv_at hl 0 rfl) ?_
    refine va_get (D := (dC, dI)) (ci := 5) (v := .ref ht_told) (C := RX6) (T := TX6) (N := 19) hx hb hts hinX6 hown hK hP 2 rfl rfl 4 (by decide) hw0 (fun _ h9 => h9) rfl dX6_habits_11 ?_
    refine lv_iload_n hx hb dX6_habits_14 rfl (lv_at hl 1 rfl) ?_
    obtain ⟨hi3, hf⟩ := dg_ix hf
    refine va_iald hx hb hK hP 1 0 rfl rfl hi3 dX6_habits_15 ?_
    refine lv_bipush (v := -9) hx hb dX6_habits_16 (by decide) ?_
    refine lv_icmp_ne (tgt := 24) hx hb dX6_habits_18 (by decide) (fun c4 => ?_) (fun c4 => ?_)
    · replace hf := dg_f c4 hf
      refine lv_iconst (v := 0) hx hb dX6_habits_24 (by decide) ?_
      refine lv_istore_n (lv' := [(2, .int (0:Int32)), (0, .ref ht), (1, .int a1)]) hx hb dX6_habits_25 rfl hl (by decide) rfl (fun ls hl => ?_)
      refine lv_iconst (v := 0) hx hb dX6_habits_26 (by decide) ?_
      refine lv_istore_n (lv' := [(3, .int (0:Int32)), (2, .int (0:Int32)), (0, .ref ht), (1, .int a1)]) hx hb dX6_habits_27 rfl hl (by decide) rfl (fun ls hl => ?_)
      have ex28 : ∀ (z2_28 : Int32) (z3_28 : Int32) (H : Heap) (locs : List Loc) (ls : Array Slot), va_P (dC, dI) vwCl [(ht_now, .inl (cI, 13, .inl vt_now)), (ht_told, .inl (cI, 4, .inl vt_told)), (ht, .inr (5, [.int vt_clerks, .ref ht_drops, .ref ht_tires, .ref ht_now, .ref ht_told, .ref ht_text, .int vt_length, .ref ht_pages, .int vt_acts, .int vt_next, .ref ht_row, .int vt_found, .ref ht_alike, .ref ht_table, .ref ht_keys, .ref ht_own, .long vt_seed, .ref ht_isKept, .ref ht_kept]))] H → va_D A [(ht_now, .inl (cI, 13, .inl vt_now)), (ht_told, .inl (cI, 4, .inl vt_told)), (ht, .inr (5, [.int vt_clerks, .ref ht_drops, .ref ht_tires, .ref ht_now, .ref ht_told, .ref ht_text, .int vt_length, .ref ht_pages, .int vt_acts, .int vt_next, .ref ht_row, .int vt_found, .ref ht_alike, .ref ht_table, .ref ht_keys, .ref ht_own, .long vt_seed, .ref ht_isKept, .ref ht_kept]))] → va_S A s.heap H locs → lv_has ls 4 [(3, .int z3_28), (2, .int z2_28), (0, .ref ht), (1, .int a1)] → (some z2_28) = some R → W p l e (rm_X6_habits) s m ([.ref ht, .int a1] : List Value).toArray below meth c H locs 0 0 (MQ below (q_X6_habits dC dI cI cJ cZ ht ht_drops ht_tires ht_now ht_told ht_text ht_pages ht_row ht_alike ht_table ht_keys ht_own ht_isKept ht_kept vt_clerks vt_length vt_acts vt_next vt_found vt_seed vt_now vt_told R A) ([.ref ht, .int a1] : List Value).toArray s 0 0 A) (F0 m 58 ls []) := by
        intro z2_28 z3_28 H locs ls hP hD hS hl hf
        refine lv_iload_n hx hb dX6_habits_58 rfl (lv_at hl 1 rfl) ?_
        have he := Option.some.inj hf
        have hP9 := (hP.sub (ws' := [(ht, .inr (5, [.int vt_clerks, .ref ht_drops, .ref ht_tires, .ref ht_now, .ref ht_told, .ref ht_text, .int vt_length, .ref ht_pages, .int vt_acts, .int vt_next, .ref ht_row, .int vt_found, .ref ht_alike, .ref ht_table, .ref ht_keys, .ref ht_own, .long vt_seed, .ref ht_isKept, .ref ht_kept])), (ht_now, .inl (cI, 13, .inl vt_now)), (ht_told, .inl (cI, 4, .inl vt_told))]) [2, 0, 1] rfl)
        have hD9 := (hD.sub (ws' := [(ht, .inr (5, [.int vt_clerks, .ref ht_drops, .ref ht_tires, .ref ht_now, .ref ht_told, .ref ht_text, .int vt_length, .ref ht_pages, .int vt_acts, .int vt_next, .ref ht_row, .int vt_found, .ref ht_alike, .ref ht_table, .ref ht_keys, .ref ht_own, .long vt_seed, .ref ht_isKept, .ref ht_kept])), (ht_now, .inl (cI, 13, .inl vt_now)), (ht_told, .inl (cI, 4, .inl vt_told))]) [2, 0, 1] (by decide) rfl)
        exact W.iret (v := z2_28) hx hb hr (fun t eth hW => ⟨⟨z2_28, (), rfl, he.symm, by rw [eth]; exact hP9, va_K.moved hW.alike hK, hD9⟩, hS.F eth⟩) hS.2.2 dX6_habits_59
      have lp28 : ∀ (n28 : Nat) (y2_28 : Int32) (y3_28 : Int32) (H : Heap) (locs : List Loc) (ls : Array Slot), va_P (dC, dI) vwCl [(ht_now, .inl (cI, 13, .inl vt_now)), (ht_told, .inl (cI, 4, .inl vt_told)), (ht, .inr (5, [.int vt_clerks, .ref ht_drops, .ref ht_tires, .ref ht_now, .ref ht_told, .ref ht_text, .int vt_length, .ref ht_pages, .int vt_acts, .int vt_next, .ref ht_row, .int vt_found, .ref ht_alike, .ref ht_table, .ref ht_keys, .ref ht_own, .long vt_seed, .ref ht_isKept, .ref ht_kept]))] H → va_D A [(ht_now, .inl (cI, 13, .inl vt_now)), (ht_told, .inl (cI, 4, .inl vt_told)), (ht, .inr (5, [.int vt_clerks, .ref ht_drops, .ref ht_tires, .ref ht_now, .ref ht_told, .ref ht_text, .int vt_length, .ref ht_pages, .int vt_acts, .int vt_next, .ref ht_row, .int vt_found, .ref ht_alike, .ref ht_table, .ref ht_keys, .ref ht_own, .long vt_seed, .ref ht_isKept, .ref ht_kept]))] → va_S A s.heap H locs → lv_has ls 4 [(3, .int y3_28), (2, .int y2_28), (0, .ref ht), (1, .int a1)] → f_X6_habits_28 N a1 vt_now vt_told (fun z2_28 z3_28 => some z2_28) n28 y2_28 y3_28 = some R → W p l e (rm_X6_habits) s m ([.ref ht, .int a1] : List Value).toArray below meth c H locs 0 0 (MQ below (q_X6_habits dC dI cI cJ cZ ht ht_drops ht_tires ht_now ht_told ht_text ht_pages ht_row ht_alike ht_table ht_keys ht_own ht_isKept ht_kept vt_clerks vt_length vt_acts vt_next vt_found vt_seed vt_now vt_told R A) ([.ref ht, .int a1] : List Value).toArray s 0 0 A) (F0 m 28 ls []) := by
        intro n28
        induction n28 with
        | zero => intro y2_28 y3_28 H locs ls hP hD hS hl hf; rw [f_X6_habits_28] at hf; cases hf
        | succ n28 ih28 =>
          intro y2_28 y3_28 H locs ls hP hD hS hl hf
          rw [f_X6_habits_28] at hf
          refine lv_iload_n hx hb dX6_habits_28 rfl (lv_at hl 0 rfl) ?_
          refine lv_sipush (v := 650) hx hb dX6_habits_29 (by decide) ?_
          refine lv_icmp_ge (tgt := 58) hx hb dX6_habits_32 (by decide) (fun c5 => ?_) (fun c5 => ?_)
          · replace hf := dg_t c5 hf
            exact ex28 y2_28 y3_28 _ _ _ hP hD hS (lv_sub hl [0, 1, 2, 3] rfl) hf
          · replace hf := dg_f c5 hf
            refine lv_iload_n hx hb dX6_habits_35 rfl (lv_at hl 1 rfl) ?_
            refine lv_aload_n hx hb dX6_habits_36 rfl (lv_at hl 2 rfl) ?_
            refine lv_iload_n hx hb dX6_habits_37 rfl (lv_at hl 3 rfl) ?_
            refine lv_iload_n hx hb dX6_habits_38 rfl (lv_at hl 0 rfl) ?_
            obtain ⟨x6, hx6, hf⟩ := dg_bind hf
            have hPc : va_P (dC, dI) vwCl [(ht, .inr (5, [.int vt_clerks, .ref ht_drops, .ref ht_tires, .ref ht_now, .ref ht_told, .ref ht_text, .int vt_length, .ref ht_pages, .int vt_acts, .int vt_next, .ref ht_row, .int vt_found, .ref ht_alike, .ref ht_table, .ref ht_keys, .ref ht_own, .long vt_seed, .ref ht_isKept, .ref ht_kept])), (ht_now, .inl (cI, 13, .inl vt_now)), (ht_told, .inl (cI, 4, .inl vt_told))] H := hP.sub [2, 0, 1] rfl
            have hDc : va_D A [(ht, .inr (5, [.int vt_clerks, .ref ht_drops, .ref ht_tires, .ref ht_now, .ref ht_told, .ref ht_text, .int vt_length, .ref ht_pages, .int vt_acts, .int vt_next, .ref ht_row, .int vt_found, .ref ht_alike, .ref ht_table, .ref ht_keys, .ref ht_own, .long vt_seed, .ref ht_isKept, .ref ht_kept])), (ht_now, .inl (cI, 13, .inl vt_now)), (ht_told, .inl (cI, 4, .inl vt_told))] := hD.sub [2, 0, 1] (by decide) rfl
            have hFc := va_free (wc := [(ht, .inr (5, [.int vt_clerks, .ref ht_drops, .ref ht_tires, .ref ht_now, .ref ht_told, .ref ht_text, .int vt_length, .ref ht_pages, .int vt_acts, .int vt_next, .ref ht_row, .int vt_found, .ref ht_alike, .ref ht_table, .ref ht_keys, .ref ht_own, .long vt_seed, .ref ht_isKept, .ref ht_kept])), (ht_now, .inl (cI, 13, .inl vt_now)), (ht_told, .inl (cI, 4, .inl vt_told))]) hD hS hA [2, 0, 1] rfl
            refine va_calli (va_runV (As := [.int a1, .int y3_28]) (rest := [.int y2_28]) ⟨hx, hb, hml, hown, hts⟩ (k_X6_isHabit l dC dI cI cJ cZ H.size ht ht_drops ht_tires ht_now ht_told ht_text ht_pages ht_row ht_alike ht_table ht_keys ht_own ht_isKept ht_kept a1 y3_28 vt_clerks vt_length vt_acts vt_next vt_found vt_seed vt_now vt_told N x6 hx6) (cwV 2 hts gX6_habits_X6_isHabit rfl rfl rfl hd_X6_isHabit ⟨Nat.le_of_ble_eq_true rfl, Nat.le_of_ble_eq_true rfl⟩) ⟨blind_pc, va_recv hK hPc (ci := 5) (q0 := 0) rfl rfl, pre_pc hPc hK hDc⟩ rfl rfl hl.1 rfl (lv_room (Nat.le_of_ble_eq_true rfl)) dX6_habits_39 ⟨Nat.zero_le _, Nat.zero_le _⟩) hS (fun q _ h => hFc q h) hFc (fun r u t H1 locs eth hvm hw hB hz1 hk1 hS => ?_)
            obtain ⟨hP1, hK1, hD1⟩ := hB
            rw [eth] at hP1
            subst hw
            obtain ⟨hP, hD⟩ := va_join (wr := []) (w1 := [(ht, .inr (5, [.int vt_clerks, .ref ht_drops, .ref ht_tires, .ref ht_now, .ref ht_told, .ref ht_text, .int vt_length, .ref ht_pages, .int vt_acts, .int vt_next, .ref ht_row, .int vt_found, .ref ht_alike, .ref ht_table, .ref ht_keys, .ref ht_own, .long vt_seed, .ref ht_isKept, .ref ht_kept])), (ht_now, .inl (cI, 13, .inl vt_now)), (ht_told, .inl (cI, 4, .inl vt_told))]) hP hD [2, 0, 1] [] rfl rfl (by decide) (by decide) hk1 hFc hP1 hD1
            clear hP1 hK1 hD1 hPc hDc hFc hk1 hz1 hvm eth
            generalize H1 = H at hP hS ⊢
            have hP : va_P (dC, dI) vwCl [(ht, .inr (5, [.int vt_clerks, .ref ht_drops, .ref ht_tires, .ref ht_now, .ref ht_told, .ref ht_text, .int vt_length, .ref ht_pages, .int vt_acts, .int vt_next, .ref ht_row, .int vt_found, .ref ht_alike, .ref ht_table, .ref ht_keys, .ref ht_own, .long vt_seed, .ref ht_isKept, .ref ht_kept])), (ht_now, .inl (cI, 13, .inl vt_now)), (ht_told, .inl (cI, 4, .inl vt_told))] H := hP
            have hD : va_D A [(ht, .inr (5, [.int vt_clerks, .ref ht_drops, .ref ht_tires, .ref ht_now, .ref ht_told, .ref ht_text, .int vt_length, .ref ht_pages, .int vt_acts, .int vt_next, .ref ht_row, .int vt_found, .ref ht_alike, .ref ht_table, .ref ht_keys, .ref ht_own, .long vt_seed, .ref ht_isKept, .ref ht_kept])), (ht_now, .inl (cI, 13, .inl vt_now)), (ht_told, .inl (cI, 4, .inl vt_told))] := hD
            refine lv_if_eq (tgt := 49) hx hb dX6_habits_42 (by decide) (fun c7 => ?_) (fun c7 => ?_)
            · replace hf := dg_t c7 hf
              refine lv_iconst (v := 0) hx hb dX6_habits_49 (by decide) ?_
              refine lv_iadd hx hb dX6_habits_50 ?_
              refine lv_istore_n (lv' := [(2, .int (y2_28 + (0:Int32))), (3, .int y3_28), (0, .ref ht), (1, .int a1)]) hx hb dX6_habits_51 rfl hl (by decide) rfl (fun ls hl => ?_)
              refine lv_iinc (v := (y3_28 + (1:Int32))) (lv' := [(3, .int (y3_28 + (1:Int32))), (2, .int (y2_28 + (0:Int32))), (0, .ref ht), (1, .int a1)]) hx hb dX6_habits_52 hl (k := 1) rfl (by first | rfl | decide) (by decide) rfl (fun ls hl => ?_)
              refine lv_goto (tgt := 28) hx hb dX6_habits_55 (by decide) ?_
              exact ih28 (y2_28 + (0:Int32)) (y3_28 + (1:Int32)) _ _ _ (hP.sub (ws' := [(ht_now, .inl (cI, 13, .inl vt_now)), (ht_told, .inl (cI, 4, .inl vt_told)), (ht, .inr (5, [.int vt_clerks, .ref ht_drops, .ref ht_tires, .ref ht_now, .ref ht_told, .ref ht_text, .int vt_length, .ref ht_pages, .int vt_acts, .int vt_next, .ref ht_row, .int vt_found, .ref ht_alike, .ref ht_table, .ref ht_keys, .ref ht_own, .long vt_seed, .ref ht_isKept, .ref ht_kept]))]) [1, 2, 0] rfl) (hD.sub (ws' := [(ht_now, .inl (cI, 13, .inl vt_now)), (ht_told, .inl (cI, 4, .inl vt_told)), (ht, .inr (5, [.int vt_clerks, .ref ht_drops, .ref ht_tires, .ref ht_now, .ref ht_told, .ref ht_text, .int vt_length, .ref ht_pages, .int vt_acts, .int vt_next, .ref ht_row, .int vt_found, .ref ht_alike, .ref ht_table, .ref ht_keys, .ref ht_own, .long vt_seed, .ref ht_isKept, .ref ht_kept]))]) [1, 2, 0] (by decide) rfl) hS (lv_sub hl [0, 1, 2, 3] rfl) hf
            · replace hf := dg_f c7 hf
              refine lv_iconst (v := 1) hx hb dX6_habits_45 (by decide) ?_
              refine lv_goto (tgt := 50) hx hb dX6_habits_46 (by decide) ?_
              refine lv_iadd hx hb dX6_habits_50 ?_
              refine lv_istore_n (lv' := [(2, .int (y2_28 + (1:Int32))), (3, .int y3_28), (0, .ref ht), (1, .int a1)]) hx hb dX6_habits_51 rfl hl (by decide) rfl (fun ls hl => ?_)
              refine lv_iinc (v := (y3_28 + (1:Int32))) (lv' := [(3, .int (y3_28 + (1:Int32))), (2, .int (y2_28 + (1:Int32))), (0, .ref ht), (1, .int a1)]) hx hb dX6_habits_52 hl (k := 1) rfl (by first | rfl | decide) (by decide) rfl (fun ls hl => ?_)
              refine lv_goto (tgt := 28) hx hb dX6_habits_55 (by decide) ?_
              exact ih28 (y2_28 + (1:Int32)) (y3_28 + (1:Int32)) _ _ _ (hP.sub (ws' := [(ht_now, .inl (cI, 13, .inl vt_now)), (ht_told, .inl (cI, 4, .inl vt_told)), (ht, .inr (5, [.int vt_clerks, .ref ht_drops, .ref ht_tires, .ref ht_now, .ref ht_told, .ref ht_text, .int vt_length, .ref ht_pages, .int vt_acts, .int vt_next, .ref ht_row, .int vt_found, .ref ht_alike, .ref ht_table, .ref ht_keys, .ref ht_own, .long vt_seed, .ref ht_isKept, .ref ht_kept]))]) [1, 2, 0] rfl) (hD.sub (ws' := [(ht_now, .inl (cI, 13, .inl vt_now)), (ht_told, .inl (cI, 4, .inl vt_told)), (ht, .inr (5, [.int vt_clerks, .ref ht_drops, .ref ht_tires, .ref ht_now, .ref ht_told, .ref ht_text, .int vt_length, .ref ht_pages, .int vt_acts, .int vt_next, .ref ht_row, .int vt_found, .ref ht_alike, .ref ht_table, .ref ht_keys, .ref ht_own, .long vt_seed, .ref ht_isKept, .ref ht_kept]))]) [1, 2, 0] (by decide) rfl) hS (lv_sub hl [0, 1, 2, 3] rfl) hf
      exact lp28 N (0:Int32) (0:Int32) _ _ _ hP hD hS hl hf
    · replace hf := dg_t c4 hf
      refine lv_bipush (v := -3) hx hb dX6_habits_21 (by decide) ?_
      have he := Option.some.inj hf
      have hP9 := (hP.sub (ws' := [(ht, .inr (5, [.int vt_clerks, .ref ht_drops, .ref ht_tires, .ref ht_now, .ref ht_told, .ref ht_text, .int vt_length, .ref ht_pages, .int vt_acts, .int vt_next, .ref ht_row, .int vt_found, .ref ht_alike, .ref ht_table, .ref ht_keys, .ref ht_own, .long vt_seed, .ref ht_isKept, .ref ht_kept])), (ht_now, .inl (cI, 13, .inl vt_now)), (ht_told, .inl (cI, 4, .inl vt_told))]) [2, 0, 1] rfl)
      have hD9 := (hD.sub (ws' := [(ht, .inr (5, [.int vt_clerks, .ref ht_drops, .ref ht_tires, .ref ht_now, .ref ht_told, .ref ht_text, .int vt_length, .ref ht_pages, .int vt_acts, .int vt_next, .ref ht_row, .int vt_found, .ref ht_alike, .ref ht_table, .ref ht_keys, .ref ht_own, .long vt_seed, .ref ht_isKept, .ref ht_kept])), (ht_now, .inl (cI, 13, .inl vt_now)), (ht_told, .inl (cI, 4, .inl vt_told))]) [2, 0, 1] (by decide) rfl)
      exact W.iret (v := (-3:Int32)) hx hb hr (fun t eth hW => ⟨⟨(-3:Int32), (), rfl, he.symm, by rw [eth]; exact hP9, va_K.moved hW.alike hK, hD9⟩, hS.F eth⟩) hS.2.2 dX6_habits_23
  · replace hf := dg_t c2 hf
    refine lv_iconst (v := -1) hx hb dX6_habits_8 (by decide) ?_
    have he := Option.some.inj hf
    have hP9 := (hP.sub (ws' := [(ht, .inr (5, [.int vt_clerks, .ref ht_drops, .ref ht_tires, .ref ht_now, .ref ht_told, .ref ht_text, .int vt_length, .ref ht_pages, .int vt_acts, .int vt_next, .ref ht_row, .int vt_found, .ref ht_alike, .ref ht_table, .ref ht_keys, .ref ht_own, .long vt_seed, .ref ht_isKept, .ref ht_kept])), (ht_now, .inl (cI, 13, .inl vt_now)), (ht_told, .inl (cI, 4, .inl vt_told))]) [2, 0, 1] rfl)
    have hD9 := (hD.sub (ws' := [(ht, .inr (5, [.int vt_clerks, .ref ht_drops, .ref ht_tires, .ref ht_now, .ref ht_told, .ref ht_text, .int vt_length, .ref ht_pages, .int vt_acts, .int vt_next, .ref ht_row, .int vt_found, .ref ht_alike, .ref ht_table, .ref ht_keys, .ref ht_own, .long vt_seed, .ref ht_isKept, .ref ht_kept])), (ht_now, .inl (cI, 13, .inl vt_now)), (ht_told, .inl (cI, 4, .inl vt_told))]) [2, 0, 1] (by decide) rfl)
    exact W.iret (v := (-1:Int32)) hx hb hr (fun t eth hW => ⟨⟨(-1:Int32), (), rfl, he.symm, by rw [eth]; exact hP9, va_K.moved hW.alike hK, hD9⟩, hS.F eth⟩) hS.2.2 dX6_habits_9
theorem hd_X6_habit : yX6_habit.cls = RX6 ∧ yX6_habit.cls ≠ "java/lang/invoke/MethodHandle" ∧ yX6_habit.cls ≠ "java/lang/invoke/VarHandle" ∧ (parseMethodDescriptor yX6_habit.desc).map (fun d => d.parameters.length) = some 1 := by decide +kernel
abbrev rm_X6_habit : Room := { frames := 4, cells := 0, slots := 0, locals := 93 }
abbrev q_X6_habit (dC : Nat → ClassId) (dI : Nat → Nat → Nat) (cI cJ cZ : ClassId) (ht ht_drops ht_tires ht_now ht_told ht_text ht_pages ht_row ht_alike ht_table ht_keys ht_own ht_isKept ht_kept : Nat) (vt_clerks : Int32) (vt_length : Int32) (vt_acts : Int32) (vt_next : Int32) (vt_found : Int32) (vt_seed : Int64) (vt_now : Nat → Int32) (vt_told : Nat → Int32) (R : Int32) (A : Nat → Prop) : Array Value → State → Outcome → State → Prop := va_Qi (fun (r : Int32) (_ : Unit) => R = r) (fun (u : Unit) (t : State) => va_P (dC, dI) vwCl [(ht, .inr (5, [.int vt_clerks, .ref ht_drops, .ref ht_tires, .ref ht_now, .ref ht_told, .ref ht_text, .int vt_length, .ref ht_pages, .int vt_acts, .int vt_next, .ref ht_row, .int vt_found, .ref ht_alike, .ref ht_table, .ref ht_keys, .ref ht_own, .long vt_seed, .ref ht_isKept, .ref ht_kept])), (ht_now, .inl (cI, 13, .inl vt_now)), (ht_told, .inl (cI, 4, .inl vt_told))] t.heap ∧ va_K (dC, dI) vwCl [(cI, .int), (cJ, .long), (cZ, .boolean)] t ∧ va_D A [(ht, .inr (5, [.int vt_clerks, .ref ht_drops, .ref ht_tires, .ref ht_now, .ref ht_told, .ref ht_text, .int vt_length, .ref ht_pages, .int vt_acts, .int vt_next, .ref ht_row, .int vt_found, .ref ht_alike, .ref ht_table, .ref ht_keys, .ref ht_own, .long vt_seed, .ref ht_isKept, .ref ht_kept])), (ht_now, .inl (cI, 13, .inl vt_now)), (ht_told, .inl (cI, 4, .inl vt_told))]) A
set_option maxHeartbeats 4000000 in
set_option maxRecDepth 100000 in
theorem k_X6_habit (l : Launch) (dC : Nat → ClassId) (dI : Nat → Nat → Nat) (cI cJ cZ : ClassId) (sz : Nat) (ht ht_drops ht_tires ht_now ht_told ht_text ht_pages ht_row ht_alike ht_table ht_keys ht_own ht_isKept ht_kept : Nat) (a1 : Int32) (vt_clerks : Int32) (vt_length : Int32) (vt_acts : Int32) (vt_next : Int32) (vt_found : Int32) (vt_seed : Int64) (vt_now : Nat → Int32) (vt_told : Nat → Int32) (N : Nat) (R : Int32) (hf : f_X6_habit N a1 vt_clerks vt_now vt_told = some R) : Met l yX6_habit wsX6_habit (rm_X6_habit) (va_Pc [.ref ht, .int a1] (fun U => U.heap.size = sz ∧ va_P (dC, dI) vwCl [(ht, .inr (5, [.int vt_clerks, .ref ht_drops, .ref ht_tires, .ref ht_now, .ref ht_told, .ref ht_text, .int vt_length, .ref ht_pages, .int vt_acts, .int vt_next, .ref ht_row, .int vt_found, .ref ht_alike, .ref ht_table, .ref ht_keys, .ref ht_own, .long vt_seed, .ref ht_isKept, .ref ht_kept])), (ht_now, .inl (cI, 13, .inl vt_now)), (ht_told, .inl (cI, 4, .inl vt_told))] U.heap ∧ va_K (dC, dI) vwCl [(cI, .int), (cJ, .long), (cZ, .boolean)] U ∧ va_D (fun _ => True) [(ht, .inr (5, [.int vt_clerks, .ref ht_drops, .ref ht_tires, .ref ht_now, .ref ht_told, .ref ht_text, .int vt_length, .ref ht_pages, .int vt_acts, .int vt_next, .ref ht_row, .int vt_found, .ref ht_alike, .ref ht_table, .ref ht_keys, .ref ht_own, .long vt_seed, .ref ht_isKept, .ref ht_kept])), (ht_now, .inl (cI, 13, .inl vt_now)), (ht_told, .inl (cI, 4, .inl vt_told))])) (q_X6_habit dC dI cI cJ cZ ht ht_drops ht_tires ht_now ht_told ht_text ht_pages ht_row ht_alike ht_table ht_keys ht_own ht_isKept ht_kept vt_clerks vt_length vt_acts vt_next vt_found vt_seed vt_now vt_told R (va_A [(ht, .inr (5, [.int vt_clerks, .ref ht_drops, .ref ht_tires, .ref ht_now, .ref ht_told, .ref ht_text, .int vt_length, .ref ht_pages, .int vt_acts, .int vt_next, .ref ht_row, .int vt_found, .ref ht_alike, .ref ht_table, .ref ht_keys, .ref ht_own, .long vt_seed, .ref ht_isKept, .ref ht_kept])), (ht_now, .inl (cI, 13, .inl vt_now)), (ht_told, .inl (cI, 4, .inl vt_told))] sz)) 0 0 (va_A [(ht, .inr (5, [.int vt_clerks, .ref ht_drops, .ref ht_tires, .ref ht_now, .ref ht_told, .ref ht_text, .int vt_length, .ref ht_pages, .int vt_acts, .int vt_next, .ref ht_row, .int vt_found, .ref ht_alike, .ref ht_table, .ref ht_keys, .ref ht_own, .long vt_seed, .ref ht_isKept, .ref ht_kept])), (ht_now, .inl (cI, 13, .inl vt_now)), (ht_told, .inl (cI, 4, .inl vt_told))] sz) := by
  refine Met.ofW (cc := cX6_habit) (maxL := 6) (ret := (some .int)) (by decide) rfl ?_
  intro p e s m args below meth c s₁ B hml hv
  obtain ⟨rfl, hsz, hP, hK, hD0⟩ := hv
  have hx := B.exec
  have hb := B.bytes
  have hr := B.returns
  have hts := atoms_spec (ws := wsX6_habit) B.pre
  have hown : s.vm.findClass RX6 = some m.cls := findClass_of_methodNamed B.named
  have hlocks := B.notSynchronized
  clear B
  subst hsz
  have hw0 := hts (.fieldLink RX6 19 "ShorthandCourtModel" "told" "[I") (by decide +kernel)
  have hinX6 : ∀ w ∈ u_ws RX6 TX6 19, w ∈ wsX6_habit := by decide +kernel
  have hD := hD0.self (sz := s.heap.size)
  clear hD0
  generalize hAe : va_A [(ht, .inr (5, [.int vt_clerks, .ref ht_drops, .ref ht_tires, .ref ht_now, .ref ht_told, .ref ht_text, .int vt_length, .ref ht_pages, .int vt_acts, .int vt_next, .ref ht_row, .int vt_found, .ref ht_alike, .ref ht_table, .ref ht_keys, .ref ht_own, .long vt_seed, .ref ht_isKept, .ref ht_kept])), (ht_now, .inl (cI, 13, .inl vt_now)), (ht_told, .inl (cI, 4, .inl vt_told))] s.heap.size = A at hD ⊢
  have hA : ∀ q : Nat, s.heap.size ≤ q → A q := fun q h => by rw [← hAe]; exact Or.inr h
  clear hAe
  have hS : va_S A s.heap s.heap [] := va_S.rf
  have hl := lv_entry ([.ref ht, .int a1]) (n := 6) (Nat.le_of_ble_eq_true rfl)
  rw [lg_entry_eq]
  generalize (lg_sl ([.ref ht, .int a1]) ++ List.replicate (6 - (lg_sl ([.ref ht, .int a1])).length) Slot.unset).toArray = ls at hl ⊢
  have hl : lv_has ls 6 [(0, .ref ht), (1, .int a1)] := hl
  unfold f_X6_habit at hf
  refine lv_aload_n hx hb dX6_habit_0 rfl (lv_at hl 0 rfl) ?_
  refine lv_iload_n hx hb dX6_habit_1 rfl (lv_at hl 1 rfl) ?_
  obtain ⟨x1, hx1, hf⟩ := dg_bind hf
  have hPc : va_P (dC, dI) vwCl [(ht, .inr (5, [.int vt_clerks, .ref ht_drops, .ref ht_tires, .ref ht_now, .ref ht_told, .ref ht_text, .int vt_length, .ref ht_pages, .int vt_acts, .int vt_next, .ref ht_row, .int vt_found, .ref ht_alike, .ref ht_table, .ref ht_keys, .ref ht_own, .long vt_seed, .ref ht_isKept, .ref ht_kept]))] s.heap := hP.sub [0] rfl
  have hDc : va_D A [(ht, .inr (5, [.int vt_clerks, .ref ht_drops, .ref ht_tires, .ref ht_now, .ref ht_told, .ref ht_text, .int vt_length, .ref ht_pages, .int vt_acts, .int vt_next, .ref ht_row, .int vt_found, .ref ht_alike, .ref ht_table, .ref ht_keys, .ref ht_own, .long vt_seed, .ref ht_isKept, .ref ht_kept]))] := hD.sub [0] (by decide) rfl
  have hFc := va_free (wc := [(ht, .inr (5, [.int vt_clerks, .ref ht_drops, .ref ht_tires, .ref ht_now, .ref ht_told, .ref ht_text, .int vt_length, .ref ht_pages, .int vt_acts, .int vt_next, .ref ht_row, .int vt_found, .ref ht_alike, .ref ht_table, .ref ht_keys, .ref ht_own, .long vt_seed, .ref ht_isKept, .ref ht_kept]))]) hD hS hA [0] rfl
  refine va_calli (va_runV (As := [.int a1]) (rest := []) ⟨hx, hb, hml, hown, hts⟩ (k_X6_isClerk l dC dI cI cJ cZ s.heap.size ht ht_drops ht_tires ht_now ht_told ht_text ht_pages ht_row ht_alike ht_table ht_keys ht_own ht_isKept ht_kept a1 vt_clerks vt_length vt_acts vt_next vt_found vt_seed N x1 hx1) (cwV 1 hts gX6_habit_X6_isClerk rfl rfl rfl hd_X6_isClerk ⟨Nat.le_of_ble_eq_true rfl, Nat.le_of_ble_eq_true rfl⟩) ⟨blind_pc, va_recv hK hPc (ci := 5) (q0 := 0) rfl rfl, pre_pc hPc hK hDc⟩ rfl rfl hl.1 rfl (lv_room (Nat.le_of_ble_eq_true rfl)) dX6_habit_2 ⟨Nat.zero_le _, Nat.zero_le _⟩) hS (fun q _ h => hFc q h) hFc (fun r u t H1 locs eth hvm hw hB hz1 hk1 hS => ?_)
  obtain ⟨hP1, hK1, hD1⟩ := hB
  rw [eth] at hP1
  subst hw
  obtain ⟨hP, hD⟩ := va_join (wr := [(ht_now, .inl (cI, 13, .inl vt_now)), (ht_told, .inl (cI, 4, .inl vt_told))]) (w1 := [(ht, .inr (5, [.int vt_clerks, .ref ht_drops, .ref ht_tires, .ref ht_now, .ref ht_told, .ref ht_text, .int vt_length, .ref ht_pages, .int vt_acts, .int vt_next, .ref ht_row, .int vt_found, .ref ht_alike, .ref ht_table, .ref ht_keys, .ref ht_own, .long vt_seed, .ref ht_isKept, .ref ht_kept]))]) hP hD [0] [1, 2] rfl rfl (by decide) (by decide) hk1 hFc hP1 hD1
  clear hP1 hK1 hD1 hPc hDc hFc hk1 hz1 hvm eth
  generalize H1 = H at hP hS ⊢
  have hP : va_P (dC, dI) vwCl [(ht_now, .inl (cI, 13, .inl vt_now)), (ht_told, .inl (cI, 4, .inl vt_told)), (ht, .inr (5, [.int vt_clerks, .ref ht_drops, .ref ht_tires, .ref ht_now, .ref ht_told, .ref ht_text, .int vt_length, .ref ht_pages, .int vt_acts, .int vt_next, .ref ht_row, .int vt_found, .ref ht_alike, .ref ht_table, .ref ht_keys, .ref ht_own, .long vt_seed, .ref ht_isKept, .ref ht_kept]))] H := hP
  have hD : va_D A [(ht_now, .inl (cI, 13, .inl vt_now)), (ht_told, .inl (cI, 4, .inl vt_told)), (ht, .inr (5, [.int vt_clerks, .ref ht_drops, .ref ht_tires, .ref ht_now, .ref ht_told, .ref ht_text, .int vt_length, .ref ht_pages, .int vt_acts, .int vt_next, .ref ht_row, .int vt_found, .ref ht_alike, .ref ht_table, .ref ht_keys, .ref ht_own, .long vt_seed, .ref ht_isKept, .ref ht_kept]))] := hD
  refine lv_if_ne (tgt := 10) hx hb dX6_habit_5 (by decide) (fun c2 => ?_) (fun c2 => ?_)
  · replace hf := dg_f c2 hf
    refine lv_aload_n hx hb dX6_habit_10 rfl (lv_at hl 0 rfl) ?_
    refine va_get (D := (dC, dI)) (ci := 5) (v := .ref ht_told) (C := RX6) (T := TX6) (N := 19) hx hb hts hinX6 hown hK hP 2 rfl rfl 4 (by decide) hw0 (fun _ h9 => h9) rfl dX6_habit_11 ?_
    refine lv_iload_n hx hb dX6_habit_14 rfl (lv_at hl 1 rfl) ?_
    obtain ⟨hi3, hf⟩ := dg_ix hf
    refine va_iald hx hb hK hP 1 0 rfl rfl hi3 dX6_habit_15 ?_
    refine lv_bipush (v := -9) hx hb dX6_habit_16 (by decide) ?_
    refine lv_icmp_ne (tgt := 24) hx hb dX6_habit_18 (by decide) (fun c4 => ?_) (fun c4 => ?_)
    · replace hf := dg_f c4 hf
      refine lv_iconst (v := 0) hx hb dX6_habit_24 (by decide) ?_
      refine lv_istore_n (lv' := [(2, .int (0:Int32)), (0, .ref ht), (1, .int a1)]) hx hb dX6_habit_25 rfl hl (by decide) rfl (fun ls hl => ?_)
      have ex26 : ∀ (z2_26 : Int32) (H : Heap) (locs : List Loc) (ls : Array Slot), va_P (dC, dI) vwCl [(ht_now, .inl (cI, 13, .inl vt_now)), (ht_told, .inl (cI, 4, .inl vt_told)), (ht, .inr (5, [.int vt_clerks, .ref ht_drops, .ref ht_tires, .ref ht_now, .ref ht_told, .ref ht_text, .int vt_length, .ref ht_pages, .int vt_acts, .int vt_next, .ref ht_row, .int vt_found, .ref ht_alike, .ref ht_table, .ref ht_keys, .ref ht_own, .long vt_seed, .ref ht_isKept, .ref ht_kept]))] H → va_D A [(ht_now, .inl (cI, 13, .inl vt_now)), (ht_told, .inl (cI, 4, .inl vt_told)), (ht, .inr (5, [.int vt_clerks, .ref ht_drops, .ref ht_tires, .ref ht_now, .ref ht_told, .ref ht_text, .int vt_length, .ref ht_pages, .int vt_acts, .int vt_next, .ref ht_row, .int vt_found, .ref ht_alike, .ref ht_table, .ref ht_keys, .ref ht_own, .long vt_seed, .ref ht_isKept, .ref ht_kept]))] → va_S A s.heap H locs → lv_has ls 6 [(2, .int z2_26), (0, .ref ht), (1, .int a1)] → (some (-9:Int32)) = some R → W p l e (rm_X6_habit) s m ([.ref ht, .int a1] : List Value).toArray below meth c H locs 0 0 (MQ below (q_X6_habit dC dI cI cJ cZ ht ht_drops ht_tires ht_now ht_told ht_text ht_pages ht_row ht_alike ht_table ht_keys ht_own ht_isKept ht_kept vt_clerks vt_length vt_acts vt_next vt_found vt_seed vt_now vt_told R A) ([.ref ht, .int a1] : List Value).toArray s 0 0 A) (F0 m 115 ls []) := by
        intro z2_26 H locs ls hP hD hS hl hf
        refine lv_bipush (v := -9) hx hb dX6_habit_115 (by decide) ?_
        have he := Option.some.inj hf
        have hP9 := (hP.sub (ws' := [(ht, .inr (5, [.int vt_clerks, .ref ht_drops, .ref ht_tires, .ref ht_now, .ref ht_told, .ref ht_text, .int vt_length, .ref ht_pages, .int vt_acts, .int vt_next, .ref ht_row, .int vt_found, .ref ht_alike, .ref ht_table, .ref ht_keys, .ref ht_own, .long vt_seed, .ref ht_isKept, .ref ht_kept])), (ht_now, .inl (cI, 13, .inl vt_now)), (ht_told, .inl (cI, 4, .inl vt_told))]) [2, 0, 1] rfl)
        have hD9 := (hD.sub (ws' := [(ht, .inr (5, [.int vt_clerks, .ref ht_drops, .ref ht_tires, .ref ht_now, .ref ht_told, .ref ht_text, .int vt_length, .ref ht_pages, .int vt_acts, .int vt_next, .ref ht_row, .int vt_found, .ref ht_alike, .ref ht_table, .ref ht_keys, .ref ht_own, .long vt_seed, .ref ht_isKept, .ref ht_kept])), (ht_now, .inl (cI, 13, .inl vt_now)), (ht_told, .inl (cI, 4, .inl vt_told))]) [2, 0, 1] (by decide) rfl)
        exact W.iret (v := (-9:Int32)) hx hb hr (fun t eth hW => ⟨⟨(-9:Int32), (), rfl, he.symm, by rw [eth]; exact hP9, va_K.moved hW.alike hK, hD9⟩, hS.F eth⟩) hS.2.2 dX6_habit_117
      have lp26 : ∀ (n26 : Nat) (y2_26 : Int32) (H : Heap) (locs : List Loc) (ls : Array Slot), va_P (dC, dI) vwCl [(ht_now, .inl (cI, 13, .inl vt_now)), (ht_told, .inl (cI, 4, .inl vt_told)), (ht, .inr (5, [.int vt_clerks, .ref ht_drops, .ref ht_tires, .ref ht_now, .ref ht_told, .ref ht_text, .int vt_length, .ref ht_pages, .int vt_acts, .int vt_next, .ref ht_row, .int vt_found, .ref ht_alike, .ref ht_table, .ref ht_keys, .ref ht_own, .long vt_seed, .ref ht_isKept, .ref ht_kept]))] H → va_D A [(ht_now, .inl (cI, 13, .inl vt_now)), (ht_told, .inl (cI, 4, .inl vt_told)), (ht, .inr (5, [.int vt_clerks, .ref ht_drops, .ref ht_tires, .ref ht_now, .ref ht_told, .ref ht_text, .int vt_length, .ref ht_pages, .int vt_acts, .int vt_next, .ref ht_row, .int vt_found, .ref ht_alike, .ref ht_table, .ref ht_keys, .ref ht_own, .long vt_seed, .ref ht_isKept, .ref ht_kept]))] → va_S A s.heap H locs → lv_has ls 6 [(2, .int y2_26), (0, .ref ht), (1, .int a1)] → f_X6_habit_26 N a1 vt_now vt_told (fun z2_26 => some (-9:Int32)) n26 y2_26 = some R → W p l e (rm_X6_habit) s m ([.ref ht, .int a1] : List Value).toArray below meth c H locs 0 0 (MQ below (q_X6_habit dC dI cI cJ cZ ht ht_drops ht_tires ht_now ht_told ht_text ht_pages ht_row ht_alike ht_table ht_keys ht_own ht_isKept ht_kept vt_clerks vt_length vt_acts vt_next vt_found vt_seed vt_now vt_told R A) ([.ref ht, .int a1] : List Value).toArray s 0 0 A) (F0 m 26 ls []) := by
        intro n26
        induction n26 with
        | zero => intro y2_26 H locs ls hP hD hS hl hf; rw [f_X6_habit_26] at hf; cases hf
        | succ n26 ih26 =>
          intro y2_26 H locs ls hP hD hS hl hf
          rw [f_X6_habit_26] at hf
          refine lv_iload_n hx hb dX6_habit_26 rfl (lv_at hl 0 rfl) ?_
          refine lv_sipush (v := 650) hx hb dX6_habit_27 (by decide) ?_
          refine lv_icmp_ge (tgt := 115) hx hb dX6_habit_30 (by decide) (fun c5 => ?_) (fun c5 => ?_)
          · replace hf := dg_t c5 hf
            exact ex26 y2_26 _ _ _ hP hD hS (lv_sub hl [0, 1, 2] rfl) hf
          · replace hf := dg_f c5 hf
            refine lv_aload_n hx hb dX6_habit_33 rfl (lv_at hl 1 rfl) ?_
            refine lv_iload_n hx hb dX6_habit_34 rfl (lv_at hl 2 rfl) ?_
            refine lv_iload_n hx hb dX6_habit_35 rfl (lv_at hl 0 rfl) ?_
            obtain ⟨x6, hx6, hf⟩ := dg_bind hf
            have hPc : va_P (dC, dI) vwCl [(ht, .inr (5, [.int vt_clerks, .ref ht_drops, .ref ht_tires, .ref ht_now, .ref ht_told, .ref ht_text, .int vt_length, .ref ht_pages, .int vt_acts, .int vt_next, .ref ht_row, .int vt_found, .ref ht_alike, .ref ht_table, .ref ht_keys, .ref ht_own, .long vt_seed, .ref ht_isKept, .ref ht_kept])), (ht_now, .inl (cI, 13, .inl vt_now)), (ht_told, .inl (cI, 4, .inl vt_told))] H := hP.sub [2, 0, 1] rfl
            have hDc : va_D A [(ht, .inr (5, [.int vt_clerks, .ref ht_drops, .ref ht_tires, .ref ht_now, .ref ht_told, .ref ht_text, .int vt_length, .ref ht_pages, .int vt_acts, .int vt_next, .ref ht_row, .int vt_found, .ref ht_alike, .ref ht_table, .ref ht_keys, .ref ht_own, .long vt_seed, .ref ht_isKept, .ref ht_kept])), (ht_now, .inl (cI, 13, .inl vt_now)), (ht_told, .inl (cI, 4, .inl vt_told))] := hD.sub [2, 0, 1] (by decide) rfl
            have hFc := va_free (wc := [(ht, .inr (5, [.int vt_clerks, .ref ht_drops, .ref ht_tires, .ref ht_now, .ref ht_told, .ref ht_text, .int vt_length, .ref ht_pages, .int vt_acts, .int vt_next, .ref ht_row, .int vt_found, .ref ht_alike, .ref ht_table, .ref ht_keys, .ref ht_own, .long vt_seed, .ref ht_isKept, .ref ht_kept])), (ht_now, .inl (cI, 13, .inl vt_now)), (ht_told, .inl (cI, 4, .inl vt_told))]) hD hS hA [2, 0, 1] rfl
            refine va_calli (va_runV (As := [.int a1, .int y2_26]) (rest := []) ⟨hx, hb, hml, hown, hts⟩ (k_X6_isHabit l dC dI cI cJ cZ H.size ht ht_drops ht_tires ht_now ht_told ht_text ht_pages ht_row ht_alike ht_table ht_keys ht_own ht_isKept ht_kept a1 y2_26 vt_clerks vt_length vt_acts vt_next vt_found vt_seed vt_now vt_told N x6 hx6) (cwV 2 hts gX6_habit_X6_isHabit rfl rfl rfl hd_X6_isHabit ⟨Nat.le_of_ble_eq_true rfl, Nat.le_of_ble_eq_true rfl⟩) ⟨blind_pc, va_recv hK hPc (ci := 5) (q0 := 0) rfl rfl, pre_pc hPc hK hDc⟩ rfl rfl hl.1 rfl (lv_room (Nat.le_of_ble_eq_true rfl)) dX6_habit_36 ⟨Nat.zero_le _, Nat.zero_le _⟩) hS (fun q _ h => hFc q h) hFc (fun r u t H1 locs eth hvm hw hB hz1 hk1 hS => ?_)
            obtain ⟨hP1, hK1, hD1⟩ := hB
            rw [eth] at hP1
            subst hw
            obtain ⟨hP, hD⟩ := va_join (wr := []) (w1 := [(ht, .inr (5, [.int vt_clerks, .ref ht_drops, .ref ht_tires, .ref ht_now, .ref ht_told, .ref ht_text, .int vt_length, .ref ht_pages, .int vt_acts, .int vt_next, .ref ht_row, .int vt_found, .ref ht_alike, .ref ht_table, .ref ht_keys, .ref ht_own, .long vt_seed, .ref ht_isKept, .ref ht_kept])), (ht_now, .inl (cI, 13, .inl vt_now)), (ht_told, .inl (cI, 4, .inl vt_told))]) hP hD [2, 0, 1] [] rfl rfl (by decide) (by decide) hk1 hFc hP1 hD1
            clear hP1 hK1 hD1 hPc hDc hFc hk1 hz1 hvm eth
            generalize H1 = H at hP hS ⊢
            have hP : va_P (dC, dI) vwCl [(ht, .inr (5, [.int vt_clerks, .ref ht_drops, .ref ht_tires, .ref ht_now, .ref ht_told, .ref ht_text, .int vt_length, .ref ht_pages, .int vt_acts, .int vt_next, .ref ht_row, .int vt_found, .ref ht_alike, .ref ht_table, .ref ht_keys, .ref ht_own, .long vt_seed, .ref ht_isKept, .ref ht_kept])), (ht_now, .inl (cI, 13, .inl vt_now)), (ht_told, .inl (cI, 4, .inl vt_told))] H := hP
            have hD : va_D A [(ht, .inr (5, [.int vt_clerks, .ref ht_drops, .ref ht_tires, .ref ht_now, .ref ht_told, .ref ht_text, .int vt_length, .ref ht_pages, .int vt_acts, .int vt_next, .ref ht_row, .int vt_found, .ref ht_alike, .ref ht_table, .ref ht_keys, .ref ht_own, .long vt_seed, .ref ht_isKept, .ref ht_kept])), (ht_now, .inl (cI, 13, .inl vt_now)), (ht_told, .inl (cI, 4, .inl vt_told))] := hD
            refine lv_if_eq (tgt := 109) hx hb dX6_habit_39 (by decide) (fun c7 => ?_) (fun c7 => ?_)
            · replace hf := dg_t c7 hf
              refine lv_iinc (v := (y2_26 + (1:Int32))) (lv' := [(2, .int (y2_26 + (1:Int32))), (0, .ref ht), (1, .int a1)]) hx hb dX6_habit_109 hl (k := 0) rfl (by first | rfl | decide) (by decide) rfl (fun ls hl => ?_)
              refine lv_goto (tgt := 26) hx hb dX6_habit_112 (by decide) ?_
              exact ih26 (y2_26 + (1:Int32)) _ _ _ (hP.sub (ws' := [(ht_now, .inl (cI, 13, .inl vt_now)), (ht_told, .inl (cI, 4, .inl vt_told)), (ht, .inr (5, [.int vt_clerks, .ref ht_drops, .ref ht_tires, .ref ht_now, .ref ht_told, .ref ht_text, .int vt_length, .ref ht_pages, .int vt_acts, .int vt_next, .ref ht_row, .int vt_found, .ref ht_alike, .ref ht_table, .ref ht_keys, .ref ht_own, .long vt_seed, .ref ht_isKept, .ref ht_kept]))]) [1, 2, 0] rfl) (hD.sub (ws' := [(ht_now, .inl (cI, 13, .inl vt_now)), (ht_told, .inl (cI, 4, .inl vt_told)), (ht, .inr (5, [.int vt_clerks, .ref ht_drops, .ref ht_tires, .ref ht_now, .ref ht_told, .ref ht_text, .int vt_length, .ref ht_pages, .int vt_acts, .int vt_next, .ref ht_row, .int vt_found, .ref ht_alike, .ref ht_table, .ref ht_keys, .ref ht_own, .long vt_seed, .ref ht_isKept, .ref ht_kept]))]) [1, 2, 0] (by decide) rfl) hS (lv_sub hl [0, 1, 2] rfl) hf
            · replace hf := dg_f c7 hf
              refine lv_iload_n hx hb dX6_habit_42 rfl (lv_at hl 0 rfl) ?_
              refine lv_bipush (v := 10) hx hb dX6_habit_43 (by decide) ?_
              refine lv_idiv hx hb dX6_habit_45 (by decide) ?_
              refine lv_bipush (v := 13) hx hb dX6_habit_46 (by decide) ?_
              refine lv_irem hx hb dX6_habit_48 (by decide) ?_
              refine lv_istore_n (lv' := [(3, .int ((y2_26 / (10:Int32)) - (y2_26 / (10:Int32)) / (13:Int32) * (13:Int32))), (2, .int y2_26), (0, .ref ht), (1, .int a1)]) hx hb dX6_habit_49 rfl hl (by decide) rfl (fun ls hl => ?_)
              refine lv_iload_n hx hb dX6_habit_50 rfl (lv_at hl 0 rfl) ?_
              refine lv_if_ne (tgt := 58) hx hb dX6_habit_51 (by decide) (fun c8 => ?_) (fun c8 => ?_)
              · replace hf := dg_f c8 hf
                refine lv_iload_n hx hb dX6_habit_58 rfl (lv_at hl 0 rfl) ?_
                obtain ⟨x9, hx9, hf⟩ := dg_bind hf
                have hPc : va_P (dC, dI) vwCl [] H := hP.sub [] rfl
                have hDc : va_D A [] := hD.sub [] (by decide) rfl
                have hFc := va_free (wc := []) hD hS hA [] rfl
                refine va_calli (va_runS (As := [.int ((y2_26 / (10:Int32)) - (y2_26 / (10:Int32)) / (13:Int32) * (13:Int32))]) (rest := []) ⟨hx, hb, hml, hown, hts⟩ (k_X6_fromOf l dC dI cI cJ cZ H.size ((y2_26 / (10:Int32)) - (y2_26 / (10:Int32)) / (13:Int32) * (13:Int32)) N x9 hx9) (va_cwS 1 hts gX6_habit_X6_fromOf rfl rfl rfl hd_X6_fromOf ⟨Nat.le_of_ble_eq_true rfl, Nat.le_of_ble_eq_true rfl⟩) ⟨blind_pc, pre_pc hPc hK hDc⟩ rfl rfl hl.1 rfl (lv_room (Nat.le_of_ble_eq_true rfl)) dX6_habit_59 ⟨Nat.zero_le _, Nat.zero_le _⟩) hS (fun q _ h => hFc q h) hFc (fun r u t H1 locs eth hvm hw hB hz1 hk1 hS => ?_)
                obtain ⟨hP1, hK1, hD1⟩ := hB
                rw [eth] at hP1
                subst hw
                obtain ⟨hP, hD⟩ := va_join (wr := [(ht, .inr (5, [.int vt_clerks, .ref ht_drops, .ref ht_tires, .ref ht_now, .ref ht_told, .ref ht_text, .int vt_length, .ref ht_pages, .int vt_acts, .int vt_next, .ref ht_row, .int vt_found, .ref ht_alike, .ref ht_table, .ref ht_keys, .ref ht_own, .long vt_seed, .ref ht_isKept, .ref ht_kept])), (ht_now, .inl (cI, 13, .inl vt_now)), (ht_told, .inl (cI, 4, .inl vt_told))]) (w1 := []) hP hD [] [0, 1, 2] rfl rfl (by decide) (by decide) hk1 hFc hP1 hD1
                clear hP1 hK1 hD1 hPc hDc hFc hk1 hz1 hvm eth
                generalize H1 = H at hP hS ⊢
                have hP : va_P (dC, dI) vwCl [(ht, .inr (5, [.int vt_clerks, .ref ht_drops, .ref ht_tires, .ref ht_now, .ref ht_told, .ref ht_text, .int vt_length, .ref ht_pages, .int vt_acts, .int vt_next, .ref ht_row, .int vt_found, .ref ht_alike, .ref ht_table, .ref ht_keys, .ref ht_own, .long vt_seed, .ref ht_isKept, .ref ht_kept])), (ht_now, .inl (cI, 13, .inl vt_now)), (ht_told, .inl (cI, 4, .inl vt_told))] H := hP
                have hD : va_D A [(ht, .inr (5, [.int vt_clerks, .ref ht_drops, .ref ht_tires, .ref ht_now, .ref ht_told, .ref ht_text, .int vt_length, .ref ht_pages, .int vt_acts, .int vt_next, .ref ht_row, .int vt_found, .ref ht_alike, .ref ht_table, .ref ht_keys, .ref ht_own, .long vt_seed, .ref ht_isKept, .ref ht_kept])), (ht_now, .inl (cI, 13, .inl vt_now)), (ht_told, .inl (cI, 4, .inl vt_told))] := hD
                refine lv_iconst (v := 1) hx hb dX6_habit_62 (by decide) ?_
                refine lv_iadd hx hb dX6_habit_63 ?_
                refine lv_istore (lv' := [(4, .int (x9 + (1:Int32))), (3, .int ((y2_26 / (10:Int32)) - (y2_26 / (10:Int32)) / (13:Int32) * (13:Int32))), (2, .int y2_26), (0, .ref ht), (1, .int a1)]) hx hb dX6_habit_64 hl (by decide) rfl (fun ls hl => ?_)
                refine lv_iload_n hx hb dX6_habit_66 rfl (lv_at hl 1 rfl) ?_
                refine lv_if_ne (tgt := 74) hx hb dX6_habit_67 (by decide) (fun c10 => ?_) (fun c10 => absurd c10 c8)
                refine lv_iload_n hx hb dX6_habit_74 rfl (lv_at hl 1 rfl) ?_
                obtain ⟨x11, hx11, hf⟩ := dg_bind hf
                have hPc : va_P (dC, dI) vwCl [] H := hP.sub [] rfl
                have hDc : va_D A [] := hD.sub [] (by decide) rfl
                have hFc := va_free (wc := []) hD hS hA [] rfl
                refine va_calli (va_runS (As := [.int ((y2_26 / (10:Int32)) - (y2_26 / (10:Int32)) / (13:Int32) * (13:Int32))]) (rest := []) ⟨hx, hb, hml, hown, hts⟩ (k_X6_toOf l dC dI cI cJ cZ H.size ((y2_26 / (10:Int32)) - (y2_26 / (10:Int32)) / (13:Int32) * (13:Int32)) N x11 hx11) (va_cwS 1 hts gX6_habit_X6_toOf rfl rfl rfl hd_X6_toOf ⟨Nat.le_of_ble_eq_true rfl, Nat.le_of_ble_eq_true rfl⟩) ⟨blind_pc, pre_pc hPc hK hDc⟩ rfl rfl hl.1 rfl (lv_room (Nat.le_of_ble_eq_true rfl)) dX6_habit_75 ⟨Nat.zero_le _, Nat.zero_le _⟩) hS (fun q _ h => hFc q h) hFc (fun r u t H1 locs eth hvm hw hB hz1 hk1 hS => ?_)
                obtain ⟨hP1, hK1, hD1⟩ := hB
                rw [eth] at hP1
                subst hw
                obtain ⟨hP, hD⟩ := va_join (wr := [(ht, .inr (5, [.int vt_clerks, .ref ht_drops, .ref ht_tires, .ref ht_now, .ref ht_told, .ref ht_text, .int vt_length, .ref ht_pages, .int vt_acts, .int vt_next, .ref ht_row, .int vt_found, .ref ht_alike, .ref ht_table, .ref ht_keys, .ref ht_own, .long vt_seed, .ref ht_isKept, .ref ht_kept])), (ht_now, .inl (cI, 13, .inl vt_now)), (ht_told, .inl (cI, 4, .inl vt_told))]) (w1 := []) hP hD [] [0, 1, 2] rfl rfl (by decide) (by decide) hk1 hFc hP1 hD1
                clear hP1 hK1 hD1 hPc hDc hFc hk1 hz1 hvm eth
                generalize H1 = H at hP hS ⊢
                have hP : va_P (dC, dI) vwCl [(ht, .inr (5, [.int vt_clerks, .ref ht_drops, .ref ht_tires, .ref ht_now, .ref ht_told, .ref ht_text, .int vt_length, .ref ht_pages, .int vt_acts, .int vt_next, .ref ht_row, .int vt_found, .ref ht_alike, .ref ht_table, .ref ht_keys, .ref ht_own, .long vt_seed, .ref ht_isKept, .ref ht_kept])), (ht_now, .inl (cI, 13, .inl vt_now)), (ht_told, .inl (cI, 4, .inl vt_told))] H := hP
                have hD : va_D A [(ht, .inr (5, [.int vt_clerks, .ref ht_drops, .ref ht_tires, .ref ht_now, .ref ht_told, .ref ht_text, .int vt_length, .ref ht_pages, .int vt_acts, .int vt_next, .ref ht_row, .int vt_found, .ref ht_alike, .ref ht_table, .ref ht_keys, .ref ht_own, .long vt_seed, .ref ht_isKept, .ref ht_kept])), (ht_now, .inl (cI, 13, .inl vt_now)), (ht_told, .inl (cI, 4, .inl vt_told))] := hD
                refine lv_iconst (v := 1) hx hb dX6_habit_78 (by decide) ?_
                refine lv_iadd hx hb dX6_habit_79 ?_
                refine lv_istore (lv' := [(5, .int (x11 + (1:Int32))), (4, .int (x9 + (1:Int32))), (3, .int ((y2_26 / (10:Int32)) - (y2_26 / (10:Int32)) / (13:Int32) * (13:Int32))), (2, .int y2_26), (0, .ref ht), (1, .int a1)]) hx hb dX6_habit_80 hl (by decide) rfl (fun ls hl => ?_)
                refine lv_sipush (v := 1000) hx hb dX6_habit_82 (by decide) ?_
                refine lv_iload_n hx hb dX6_habit_85 rfl (lv_at hl 3 rfl) ?_
                refine lv_sipush (v := 130) hx hb dX6_habit_86 (by decide) ?_
                refine lv_idiv hx hb dX6_habit_89 (by decide) ?_
                refine lv_imul hx hb dX6_habit_90 ?_
                refine lv_bipush (v := 100) hx hb dX6_habit_91 (by decide) ?_
                refine lv_iload hx hb dX6_habit_93 (lv_at hl 1 rfl) ?_
                refine lv_imul hx hb dX6_habit_95 ?_
                refine lv_iadd hx hb dX6_habit_96 ?_
                refine lv_bipush (v := 10) hx hb dX6_habit_97 (by decide) ?_
                refine lv_iload hx hb dX6_habit_99 (lv_at hl 0 rfl) ?_
                refine lv_imul hx hb dX6_habit_101 ?_
                refine lv_iadd hx hb dX6_habit_102 ?_
                refine lv_iload_n hx hb dX6_habit_103 rfl (lv_at hl 3 rfl) ?_
                refine lv_bipush (v := 10) hx hb dX6_habit_104 (by decide) ?_
                refine lv_irem hx hb dX6_habit_106 (by decide) ?_
                refine lv_iadd hx hb dX6_habit_107 ?_
                have he := Option.some.inj hf
                have hP9 := hP
                have hD9 := hD
                exact W.iret (v := (((((1000:Int32) * (y2_26 / (130:Int32))) + ((100:Int32) * (x9 + (1:Int32)))) + ((10:Int32) * (x11 + (1:Int32)))) + (y2_26 - y2_26 / (10:Int32) * (10:Int32)))) hx hb hr (fun t eth hW => ⟨⟨(((((1000:Int32) * (y2_26 / (130:Int32))) + ((100:Int32) * (x9 + (1:Int32)))) + ((10:Int32) * (x11 + (1:Int32)))) + (y2_26 - y2_26 / (10:Int32) * (10:Int32))), (), rfl, he.symm, by rw [eth]; exact hP9, va_K.moved hW.alike hK, hD9⟩, hS.F eth⟩) hS.2.2 dX6_habit_108
              · replace hf := dg_t c8 hf
                refine lv_iconst (v := 0) hx hb dX6_habit_54 (by decide) ?_
                refine lv_goto (tgt := 64) hx hb dX6_habit_55 (by decide) ?_
                refine lv_istore (lv' := [(4, .int (0:Int32)), (3, .int ((y2_26 / (10:Int32)) - (y2_26 / (10:Int32)) / (13:Int32) * (13:Int32))), (2, .int y2_26), (0, .ref ht), (1, .int a1)]) hx hb dX6_habit_64 hl (by decide) rfl (fun ls hl => ?_)
                refine lv_iload_n hx hb dX6_habit_66 rfl (lv_at hl 1 rfl) ?_
                refine lv_if_ne (tgt := 74) hx hb dX6_habit_67 (by decide) (fun c12 => absurd c8 c12) (fun c12 => ?_)
                refine lv_iconst (v := 0) hx hb dX6_habit_70 (by decide) ?_
                refine lv_goto (tgt := 80) hx hb dX6_habit_71 (by decide) ?_
                refine lv_istore (lv' := [(5, .int (0:Int32)), (4, .int (0:Int32)), (3, .int ((y2_26 / (10:Int32)) - (y2_26 / (10:Int32)) / (13:Int32) * (13:Int32))), (2, .int y2_26), (0, .ref ht), (1, .int a1)]) hx hb dX6_habit_80 hl (by decide) rfl (fun ls hl => ?_)
                refine lv_sipush (v := 1000) hx hb dX6_habit_82 (by decide) ?_
                refine lv_iload_n hx hb dX6_habit_85 rfl (lv_at hl 3 rfl) ?_
                refine lv_sipush (v := 130) hx hb dX6_habit_86 (by decide) ?_
                refine lv_idiv hx hb dX6_habit_89 (by decide) ?_
                refine lv_imul hx hb dX6_habit_90 ?_
                refine lv_bipush (v := 100) hx hb dX6_habit_91 (by decide) ?_
                refine lv_iload hx hb dX6_habit_93 (lv_at hl 1 rfl) ?_
                refine lv_imul hx hb dX6_habit_95 ?_
                refine lv_iadd hx hb dX6_habit_96 ?_
                refine lv_bipush (v := 10) hx hb dX6_habit_97 (by decide) ?_
                refine lv_iload hx hb dX6_habit_99 (lv_at hl 0 rfl) ?_
                refine lv_imul hx hb dX6_habit_101 ?_
                refine lv_iadd hx hb dX6_habit_102 ?_
                refine lv_iload_n hx hb dX6_habit_103 rfl (lv_at hl 3 rfl) ?_
                refine lv_bipush (v := 10) hx hb dX6_habit_104 (by decide) ?_
                refine lv_irem hx hb dX6_habit_106 (by decide) ?_
                refine lv_iadd hx hb dX6_habit_107 ?_
                have he := Option.some.inj hf
                have hP9 := hP
                have hD9 := hD
                exact W.iret (v := (((((1000:Int32) * (y2_26 / (130:Int32))) + ((100:Int32) * (0:Int32))) + ((10:Int32) * (0:Int32))) + (y2_26 - y2_26 / (10:Int32) * (10:Int32)))) hx hb hr (fun t eth hW => ⟨⟨(((((1000:Int32) * (y2_26 / (130:Int32))) + ((100:Int32) * (0:Int32))) + ((10:Int32) * (0:Int32))) + (y2_26 - y2_26 / (10:Int32) * (10:Int32))), (), rfl, he.symm, by rw [eth]; exact hP9, va_K.moved hW.alike hK, hD9⟩, hS.F eth⟩) hS.2.2 dX6_habit_108
      exact lp26 N (0:Int32) _ _ _ hP hD hS hl hf
    · replace hf := dg_t c4 hf
      refine lv_bipush (v := -3) hx hb dX6_habit_21 (by decide) ?_
      have he := Option.some.inj hf
      have hP9 := (hP.sub (ws' := [(ht, .inr (5, [.int vt_clerks, .ref ht_drops, .ref ht_tires, .ref ht_now, .ref ht_told, .ref ht_text, .int vt_length, .ref ht_pages, .int vt_acts, .int vt_next, .ref ht_row, .int vt_found, .ref ht_alike, .ref ht_table, .ref ht_keys, .ref ht_own, .long vt_seed, .ref ht_isKept, .ref ht_kept])), (ht_now, .inl (cI, 13, .inl vt_now)), (ht_told, .inl (cI, 4, .inl vt_told))]) [2, 0, 1] rfl)
      have hD9 := (hD.sub (ws' := [(ht, .inr (5, [.int vt_clerks, .ref ht_drops, .ref ht_tires, .ref ht_now, .ref ht_told, .ref ht_text, .int vt_length, .ref ht_pages, .int vt_acts, .int vt_next, .ref ht_row, .int vt_found, .ref ht_alike, .ref ht_table, .ref ht_keys, .ref ht_own, .long vt_seed, .ref ht_isKept, .ref ht_kept])), (ht_now, .inl (cI, 13, .inl vt_now)), (ht_told, .inl (cI, 4, .inl vt_told))]) [2, 0, 1] (by decide) rfl)
      exact W.iret (v := (-3:Int32)) hx hb hr (fun t eth hW => ⟨⟨(-3:Int32), (), rfl, he.symm, by rw [eth]; exact hP9, va_K.moved hW.alike hK, hD9⟩, hS.F eth⟩) hS.2.2 dX6_habit_23
  · replace hf := dg_t c2 hf
    refine lv_iconst (v := -1) hx hb dX6_habit_8 (by decide) ?_
    have he := Option.some.inj hf
    have hP9 := (hP.sub (ws' := [(ht, .inr (5, [.int vt_clerks, .ref ht_drops, .ref ht_tires, .ref ht_now, .ref ht_told, .ref ht_text, .int vt_length, .ref ht_pages, .int vt_acts, .int vt_next, .ref ht_row, .int vt_found, .ref ht_alike, .ref ht_table, .ref ht_keys, .ref ht_own, .long vt_seed, .ref ht_isKept, .ref ht_kept])), (ht_now, .inl (cI, 13, .inl vt_now)), (ht_told, .inl (cI, 4, .inl vt_told))]) [2, 0, 1] rfl)
    have hD9 := (hD.sub (ws' := [(ht, .inr (5, [.int vt_clerks, .ref ht_drops, .ref ht_tires, .ref ht_now, .ref ht_told, .ref ht_text, .int vt_length, .ref ht_pages, .int vt_acts, .int vt_next, .ref ht_row, .int vt_found, .ref ht_alike, .ref ht_table, .ref ht_keys, .ref ht_own, .long vt_seed, .ref ht_isKept, .ref ht_kept])), (ht_now, .inl (cI, 13, .inl vt_now)), (ht_told, .inl (cI, 4, .inl vt_told))]) [2, 0, 1] (by decide) rfl)
    exact W.iret (v := (-1:Int32)) hx hb hr (fun t eth hW => ⟨⟨(-1:Int32), (), rfl, he.symm, by rw [eth]; exact hP9, va_K.moved hW.alike hK, hD9⟩, hS.F eth⟩) hS.2.2 dX6_habit_9
