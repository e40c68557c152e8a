theorem hd_X6_blind : yX6_blind.cls = RX6 ∧ yX6_blind.cls ≠ "java/lang/invoke/MethodHandle" ∧ yX6_blind.cls ≠ "java/lang/invoke/VarHandle" ∧ (parseMethodDescriptor yX6_blind.desc).map (fun d => d.parameters.length) = some 1 := by decide +kernel
abbrev rm_X6_blind : Room := { frames := 6, cells := 0, slots := 0, locals := 142 }
abbrev q_X6_blind (dC : Nat → ClassId) (dI : Nat → Nat → Nat) (cI cJ cZ : ClassId) (ht ht_drops ht_tires ht_now ht_told ht_text ht_pages ht_row ht_alike ht_table ht_keys ht_own ht_isKept ht_kept : Nat) (vt_clerks : Int32) (vt_length : Int32) (vt_acts : Int32) (vt_next : Int32) (vt_found : Int32) (vt_seed : Int64) (vt_drops : Nat → Int32) (vt_tires : Nat → Int32) (vt_now : Nat → Int32) (R : Int32 × (Nat → Int32) × (Nat → Int32) × (Nat → Int32)) (A : Nat → Prop) : Array Value → State → Outcome → State → Prop := va_Qi (fun (r : Int32) (u : (Nat → Int32) × (Nat → Int32) × (Nat → Int32)) => R.1 = r ∧ R.2 = u) (fun (u : (Nat → Int32) × (Nat → Int32) × (Nat → Int32)) (t : State) => va_P (dC, dI) vwCl [(ht, .inr (5, [.int vt_clerks, .ref ht_drops, .ref ht_tires, .ref ht_now, .ref ht_told, .ref ht_text, .int vt_length, .ref ht_pages, .int vt_acts, .int vt_next, .ref ht_row, .int vt_found, .ref ht_alike, .ref ht_table, .ref ht_keys, .ref ht_own, .long vt_seed, .ref ht_isKept, .ref ht_kept])), (ht_drops, .inl (cI, 4, .inl vt_drops)), (ht_tires, .inl (cI, 4, .inl vt_tires)), (ht_now, .inl (cI, 13, .inl vt_now)), (ht_pages, .inl (cI, 4, .inl u.1)), (ht_table, .inl (cI, 8192, .inl u.2.1)), (ht_keys, .inl (cI, 4096, .inl u.2.2))] t.heap ∧ va_K (dC, dI) vwCl [(cI, .int), (cJ, .long), (cZ, .boolean)] t ∧ va_D A [(ht, .inr (5, [.int vt_clerks, .ref ht_drops, .ref ht_tires, .ref ht_now, .ref ht_told, .ref ht_text, .int vt_length, .ref ht_pages, .int vt_acts, .int vt_next, .ref ht_row, .int vt_found, .ref ht_alike, .ref ht_table, .ref ht_keys, .ref ht_own, .long vt_seed, .ref ht_isKept, .ref ht_kept])), (ht_drops, .inl (cI, 4, .inl vt_drops)), (ht_tires, .inl (cI, 4, .inl vt_tires)), (ht_now, .inl (cI, 13, .inl vt_now)), (ht_pages, .inl (cI, 4, .inl u.1)), (ht_table, .inl (cI, 8192, .inl u.2.1)), (ht_keys, .inl (cI, 4096, .inl u.2.2))]) A
set_option maxHeartbeats 4000000 in
set_option maxRecDepth 100000 in
theorem k_X6_blind (l : Launch) (dC : Nat → ClassId) (dI : Nat → Nat → Nat) (cI cJ cZ : ClassId) (sz : Nat) (ht ht_drops ht_tires ht_now ht_told ht_text ht_pages ht_row ht_alike ht_table ht_keys ht_own ht_isKept ht_kept : Nat) (a1 : Int32) (vt_clerks : Int32) (vt_length : Int32) (vt_acts : Int32) (vt_next : Int32) (vt_found : Int32) (vt_seed : Int64) (vt_drops : Nat → Int32) (vt_tires : Nat → Int32) (vt_now : Nat → Int32) (vt_pages : Nat → Int32) (vt_table : Nat → Int32) (vt_keys : Nat → Int32) (N : Nat) (R : Int32 × (Nat → Int32) × (Nat → Int32) × (Nat → Int32)) (hf : f_X6_blind N a1 vt_clerks vt_drops vt_tires vt_now vt_pages vt_table vt_keys = some R) : Met l yX6_blind wsX6_blind (rm_X6_blind) (va_Pc [.ref ht, .int a1] (fun U => U.heap.size = sz ∧ va_P (dC, dI) vwCl [(ht, .inr (5, [.int vt_clerks, .ref ht_drops, .ref ht_tires, .ref ht_now, .ref ht_told, .ref ht_text, .int vt_length, .ref ht_pages, .int vt_acts, .int vt_next, .ref ht_row, .int vt_found, .ref ht_alike, .ref ht_table, .ref ht_keys, .ref ht_own, .long vt_seed, .ref ht_isKept, .ref ht_kept])), (ht_drops, .inl (cI, 4, .inl vt_drops)), (ht_tires, .inl (cI, 4, .inl vt_tires)), (ht_now, .inl (cI, 13, .inl vt_now)), (ht_pages, .inl (cI, 4, .inl vt_pages)), (ht_table, .inl (cI, 8192, .inl vt_table)), (ht_keys, .inl (cI, 4096, .inl vt_keys))] U.heap ∧ va_K (dC, dI) vwCl [(cI, .int), (cJ, .long), (cZ, .boolean)] U ∧ va_D (fun _ => True) [(ht, .inr (5, [.int vt_clerks, .ref ht_drops, .ref ht_tires, .ref ht_now, .ref ht_told, .ref ht_text, .int vt_length, .ref ht_pages, .int vt_acts, .int vt_next, .ref ht_row, .int vt_found, .ref ht_alike, .ref ht_table, .ref ht_keys, .ref ht_own, .long vt_seed, .ref ht_isKept, .ref ht_kept])), (ht_drops, .inl (cI, 4, .inl vt_drops)), (ht_tires, .inl (cI, 4, .inl vt_tires)), (ht_now, .inl (cI, 13, .inl vt_now)), (ht_pages, .inl (cI, 4, .inl vt_pages)), (ht_table, .inl (cI, 8192, .inl vt_table)), (ht_keys, .inl (cI, 4096, .inl vt_keys))])) (q_X6_blind dC dI cI cJ cZ ht ht_drops ht_tires ht_now ht_told ht_text ht_pages ht_row ht_alike ht_table ht_keys ht_own ht_isKept ht_kept vt_clerks vt_length vt_acts vt_next vt_found vt_seed vt_drops vt_tires vt_now R (va_A [(ht, .inr (5, [.int vt_clerks, .ref ht_drops, .ref ht_tires, .ref ht_now, .ref ht_told, .ref ht_text, .int vt_length, .ref ht_pages, .int vt_acts, .int vt_next, .ref ht_row, .int vt_found, .ref ht_alike, .ref ht_table, .ref ht_keys, .ref ht_own, .long vt_seed, .ref ht_isKept, .ref ht_kept])), (ht_drops, .inl (cI, 4, .inl vt_drops)), (ht_tires, .inl (cI, 4, .inl vt_tires)), (ht_now, .inl (cI, 13, .inl vt_now)), (ht_pages, .inl (cI, 4, .inl vt_pages)), (ht_table, .inl (cI, 8192, .inl vt_table)), (ht_keys, .inl (cI, 4096, .inl vt_keys))] sz)) 0 0 (va_A [(ht, .inr (5, [.int vt_clerks, .ref ht_drops, .ref ht_tires, .ref ht_now, .ref ht_told, .ref ht_text, .int vt_length, .ref ht_pages, .int vt_acts, .int vt_next, .ref ht_row, .int vt_found, .ref ht_alike, .ref ht_table, .ref ht_keys, .ref ht_own, .long vt_seed, .ref ht_isKept, .ref ht_kept])), (ht_drops, .inl (cI, 4, .inl vt_drops)), (ht_tires, .inl (cI, 4, .inl vt_tires)), (ht_now, .inl (cI, 13, .inl vt_now)), (ht_pages, .inl (cI, 4, .inl vt_pages)), (ht_table, .inl (cI, 8192, .inl vt_table)), (ht_keys, .inl (cI, 4096, .inl vt_keys))] sz) := by
  refine Met.ofW (cc := cX6_blind) (maxL := 2) (ret := (some .int)) (by decide) rfl ?_
  intro p e s m args below meth c s₁ B hml hv
  obtain ⟨rfl, hsz, hP, hK, hD0⟩ := hv
  have hx := B.exec
  have hb := B.bytes
  have hr := B.returns
  have hts := atoms_spec (ws := wsX6_blind) B.pre
  have hown : s.vm.findClass RX6 = some m.cls := findClass_of_methodNamed B.named
  have hlocks := B.notSynchronized
  clear B
  subst hsz
  have hw0 := hts (.constantLong RX6 124 (5)) (by decide +kernel)
  have hD := hD0.self (sz := s.heap.size)
  clear hD0
  generalize hAe : va_A [(ht, .inr (5, [.int vt_clerks, .ref ht_drops, .ref ht_tires, .ref ht_now, .ref ht_told, .ref ht_text, .int vt_length, .ref ht_pages, .int vt_acts, .int vt_next, .ref ht_row, .int vt_found, .ref ht_alike, .ref ht_table, .ref ht_keys, .ref ht_own, .long vt_seed, .ref ht_isKept, .ref ht_kept])), (ht_drops, .inl (cI, 4, .inl vt_drops)), (ht_tires, .inl (cI, 4, .inl vt_tires)), (ht_now, .inl (cI, 13, .inl vt_now)), (ht_pages, .inl (cI, 4, .inl vt_pages)), (ht_table, .inl (cI, 8192, .inl vt_table)), (ht_keys, .inl (cI, 4096, .inl vt_keys))] s.heap.size = A at hD ⊢
  have hA : ∀ q : Nat, s.heap.size ≤ q → A q := fun q h => by rw [← hAe]; exact Or.inr h
  clear hAe
  have hS : va_S A s.heap s.heap [] := va_S.rf
  have hl := lv_entry ([.ref ht, .int a1]) (n := 2) (Nat.le_of_ble_eq_true rfl)
  rw [lg_entry_eq]
  generalize (lg_sl ([.ref ht, .int a1]) ++ List.replicate (2 - (lg_sl ([.ref ht, .int a1])).length) Slot.unset).toArray = ls at hl ⊢
  have hl : lv_has ls 2 [(0, .ref ht), (1, .int a1)] := hl
  unfold f_X6_blind at hf
  refine lv_iload_n hx hb dX6_blind_0 rfl (lv_at hl 1 rfl) ?_
  refine lv_i2l hx hb dX6_blind_1 rfl ?_
  refine lv_lconst (v := 0) hx hb dX6_blind_2 (by decide) ?_
  refine lv_ldc2 (v := 5) hx hb hown hw0 dX6_blind_3 ?_
  obtain ⟨x1, hx1, hf⟩ := dg_bind hf
  have hPc : va_P (dC, dI) vwCl [] s.heap := hP.sub [] rfl
  have hDc : va_D A [] := hD.sub [] (by decide) rfl
  have hFc := va_free (wc := []) hD hS hA [] rfl
  refine va_calli (va_runS (As := [.long a1.toInt64, .long (0:Int64), .long (5:Int64)]) (rest := []) ⟨hx, hb, hml, hown, hts⟩ (k_X6_in l dC dI cI cJ cZ s.heap.size a1.toInt64 (0:Int64) (5:Int64) N x1 hx1) (va_cwS 3 hts gX6_blind_X6_in rfl rfl rfl hd_X6_in ⟨Nat.le_of_ble_eq_true rfl, Nat.le_of_ble_eq_true rfl⟩) ⟨blind_pc, pre_pc hPc hK hDc⟩ rfl rfl hl.1 rfl (lv_room (Nat.le_of_ble_eq_true rfl)) dX6_blind_6 ⟨Nat.zero_le _, Nat.zero_le _⟩) hS (fun q _ h => hFc q h) hFc (fun r u t H1 locs eth hvm hw hB hz1 hk1 hS => ?_)
  obtain ⟨hP1, hK1, hD1⟩ := hB
  rw [eth] at hP1
  subst hw
  obtain ⟨hP, hD⟩ := va_join (wr := [(ht, .inr (5, [.int vt_clerks, .ref ht_drops, .ref ht_tires, .ref ht_now, .ref ht_told, .ref ht_text, .int vt_length, .ref ht_pages, .int vt_acts, .int vt_next, .ref ht_row, .int vt_found, .ref ht_alike, .ref ht_table, .ref ht_keys, .ref ht_own, .long vt_seed, .ref ht_isKept, .ref ht_kept])), (ht_drops, .inl (cI, 4, .inl vt_drops)), (ht_tires, .inl (cI, 4, .inl vt_tires)), (ht_now, .inl (cI, 13, .inl vt_now)), (ht_pages, .inl (cI, 4, .inl vt_pages)), (ht_table, .inl (cI, 8192, .inl vt_table)), (ht_keys, .inl (cI, 4096, .inl vt_keys))]) (w1 := []) hP hD [] [0, 1, 2, 3, 4, 5, 6] rfl rfl (by decide) (by decide) hk1 hFc hP1 hD1
  clear hP1 hK1 hD1 hPc hDc hFc hk1 hz1 hvm eth
  generalize H1 = H at hP hS ⊢
  have hP : va_P (dC, dI) vwCl [(ht, .inr (5, [.int vt_clerks, .ref ht_drops, .ref ht_tires, .ref ht_now, .ref ht_told, .ref ht_text, .int vt_length, .ref ht_pages, .int vt_acts, .int vt_next, .ref ht_row, .int vt_found, .ref ht_alike, .ref ht_table, .ref ht_keys, .ref ht_own, .long vt_seed, .ref ht_isKept, .ref ht_kept])), (ht_drops, .inl (cI, 4, .inl vt_drops)), (ht_tires, .inl (cI, 4, .inl vt_tires)), (ht_now, .inl (cI, 13, .inl vt_now)), (ht_pages, .inl (cI, 4, .inl vt_pages)), (ht_table, .inl (cI, 8192, .inl vt_table)), (ht_keys, .inl (cI, 4096, .inl vt_keys))] H := hP
  have hD : va_D A [(ht, .inr (5, [.int vt_clerks, .ref ht_drops, .ref ht_tires, .ref ht_now, .ref ht_told, .ref ht_text, .int vt_length, .ref ht_pages, .int vt_acts, .int vt_next, .ref ht_row, .int vt_found, .ref ht_alike, .ref ht_table, .ref ht_keys, .ref ht_own, .long vt_seed, .ref ht_isKept, .ref ht_kept])), (ht_drops, .inl (cI, 4, .inl vt_drops)), (ht_tires, .inl (cI, 4, .inl vt_tires)), (ht_now, .inl (cI, 13, .inl vt_now)), (ht_pages, .inl (cI, 4, .inl vt_pages)), (ht_table, .inl (cI, 8192, .inl vt_table)), (ht_keys, .inl (cI, 4096, .inl vt_keys))] := hD
  refine lv_if_eq (tgt := 22) hx hb dX6_blind_9 (by decide) (fun c2 => ?_) (fun c2 => ?_)
  · replace hf := dg_t c2 hf
    refine lv_bipush (v := -2) hx hb dX6_blind_22 (by decide) ?_
    have he := Option.some.inj hf
    have hP9 := hP
    have hD9 := hD
    exact W.iret (v := (-2:Int32)) hx hb hr (fun t eth hW => ⟨⟨(-2:Int32), (vt_pages, vt_table, vt_keys), rfl, ⟨(congrArg Prod.fst he).symm, (congrArg Prod.snd he).symm⟩, by rw [eth]; exact hP9, va_K.moved hW.alike hK, hD9⟩, hS.F eth⟩) hS.2.2 dX6_blind_24
  · replace hf := dg_f c2 hf
    refine lv_aload_n hx hb dX6_blind_12 rfl (lv_at hl 0 rfl) ?_
    refine lv_iload_n hx hb dX6_blind_13 rfl (lv_at hl 1 rfl) ?_
    refine lv_bipush (v := -9) hx hb dX6_blind_14 (by decide) ?_
    obtain ⟨x3, hx3, hf⟩ := dg_bind hf
    have hPc : va_P (dC, dI) vwCl [(ht, .inr (5, [.int vt_clerks, .ref ht_drops, .ref ht_tires, .ref ht_now, .ref ht_told, .ref ht_text, .int vt_length, .ref ht_pages, .int vt_acts, .int vt_next, .ref ht_row, .int vt_found, .ref ht_alike, .ref ht_table, .ref ht_keys, .ref ht_own, .long vt_seed, .ref ht_isKept, .ref ht_kept])), (ht_drops, .inl (cI, 4, .inl vt_drops)), (ht_tires, .inl (cI, 4, .inl vt_tires)), (ht_now, .inl (cI, 13, .inl vt_now)), (ht_pages, .inl (cI, 4, .inl vt_pages)), (ht_table, .inl (cI, 8192, .inl vt_table)), (ht_keys, .inl (cI, 4096, .inl vt_keys))] H := hP.sub [0, 1, 2, 3, 4, 5, 6] rfl
    have hDc : va_D A [(ht, .inr (5, [.int vt_clerks, .ref ht_drops, .ref ht_tires, .ref ht_now, .ref ht_told, .ref ht_text, .int vt_length, .ref ht_pages, .int vt_acts, .int vt_next, .ref ht_row, .int vt_found, .ref ht_alike, .ref ht_table, .ref ht_keys, .ref ht_own, .long vt_seed, .ref ht_isKept, .ref ht_kept])), (ht_drops, .inl (cI, 4, .inl vt_drops)), (ht_tires, .inl (cI, 4, .inl vt_tires)), (ht_now, .inl (cI, 13, .inl vt_now)), (ht_pages, .inl (cI, 4, .inl vt_pages)), (ht_table, .inl (cI, 8192, .inl vt_table)), (ht_keys, .inl (cI, 4096, .inl vt_keys))] := hD.sub [0, 1, 2, 3, 4, 5, 6] (by decide) rfl
    have hFc := va_free (wc := [(ht, .inr (5, [.int vt_clerks, .ref ht_drops, .ref ht_tires, .ref ht_now, .ref ht_told, .ref ht_text, .int vt_length, .ref ht_pages, .int vt_acts, .int vt_next, .ref ht_row, .int vt_found, .ref ht_alike, .ref ht_table, .ref ht_keys, .ref ht_own, .long vt_seed, .ref ht_isKept, .ref ht_kept])), (ht_drops, .inl (cI, 4, .inl vt_drops)), (ht_tires, .inl (cI, 4, .inl vt_tires)), (ht_now, .inl (cI, 13, .inl vt_now)), (ht_pages, .inl (cI, 4, .inl vt_pages)), (ht_table, .inl (cI, 8192, .inl vt_table)), (ht_keys, .inl (cI, 4096, .inl vt_keys))]) hD hS hA [0, 1, 2, 3, 4, 5, 6] rfl
    refine va_calli (va_runV (As := [.int a1, .int (-9:Int32)]) (rest := []) ⟨hx, hb, hml, hown, hts⟩ (k_X6_blindBy l dC dI cI cJ cZ H.size ht ht_drops ht_tires ht_now ht_told ht_text ht_pages ht_row ht_alike ht_table ht_keys ht_own ht_isKept ht_kept a1 (-9:Int32) vt_clerks vt_length vt_acts vt_next vt_found vt_seed vt_drops vt_tires vt_now vt_pages vt_table vt_keys N x3 hx3) (cwV 2 hts gX6_blind_X6_blindBy rfl rfl rfl hd_X6_blindBy ⟨Nat.le_of_ble_eq_true rfl, Nat.le_of_ble_eq_true rfl⟩) ⟨blind_pc, va_recv hK hPc (ci := 5) (q0 := 0) rfl rfl, pre_pc hPc hK hDc⟩ rfl rfl hl.1 rfl (lv_room (Nat.le_of_ble_eq_true rfl)) dX6_blind_16 ⟨Nat.zero_le _, Nat.zero_le _⟩) hS (fun q _ h => hFc q h) hFc (fun r u t H1 locs eth hvm hw hB hz1 hk1 hS => ?_)
    obtain ⟨hP1, hK1, hD1⟩ := hB
    rw [eth] at hP1
    obtain ⟨hw, hw2⟩ := hw
    subst hw; subst hw2
    obtain ⟨hP, hD⟩ := va_join (wr := []) (w1 := [(ht, .inr (5, [.int vt_clerks, .ref ht_drops, .ref ht_tires, .ref ht_now, .ref ht_told, .ref ht_text, .int vt_length, .ref ht_pages, .int vt_acts, .int vt_next, .ref ht_row, .int vt_found, .ref ht_alike, .ref ht_table, .ref ht_keys, .ref ht_own, .long vt_seed, .ref ht_isKept, .ref ht_kept])), (ht_drops, .inl (cI, 4, .inl vt_drops)), (ht_tires, .inl (cI, 4, .inl vt_tires)), (ht_now, .inl (cI, 13, .inl vt_now)), (ht_pages, .inl (cI, 4, .inl x3.2.1)), (ht_table, .inl (cI, 8192, .inl x3.2.2.1)), (ht_keys, .inl (cI, 4096, .inl x3.2.2.2))]) hP hD [0, 1, 2, 3, 4, 5, 6] [] rfl rfl (by decide) (by decide) hk1 hFc hP1 hD1
    clear hP1 hK1 hD1 hPc hDc hFc hk1 hz1 hvm eth
    generalize H1 = H at hP hS ⊢
    have hP : va_P (dC, dI) vwCl [(ht, .inr (5, [.int vt_clerks, .ref ht_drops, .ref ht_tires, .ref ht_now, .ref ht_told, .ref ht_text, .int vt_length, .ref ht_pages, .int vt_acts, .int vt_next, .ref ht_row, .int vt_found, .ref ht_alike, .ref ht_table, .ref ht_keys, .ref ht_own, .long vt_seed, .ref ht_isKept, .ref ht_kept])), (ht_drops, .inl (cI, 4, .inl vt_drops)), (ht_tires, .inl (cI, 4, .inl vt_tires)), (ht_now, .inl (cI, 13, .inl vt_now)), (ht_pages, .inl (cI, 4, .inl x3.2.1)), (ht_table, .inl (cI, 8192, .inl x3.2.2.1)), (ht_keys, .inl (cI, 4096, .inl x3.2.2.2))] H := hP
    have hD : va_D A [(ht, .inr (5, [.int vt_clerks, .ref ht_drops, .ref ht_tires, .ref ht_now, .ref ht_told, .ref ht_text, .int vt_length, .ref ht_pages, .int vt_acts, .int vt_next, .ref ht_row, .int vt_found, .ref ht_alike, .ref ht_table, .ref ht_keys, .ref ht_own, .long vt_seed, .ref ht_isKept, .ref ht_kept])), (ht_drops, .inl (cI, 4, .inl vt_drops)), (ht_tires, .inl (cI, 4, .inl vt_tires)), (ht_now, .inl (cI, 13, .inl vt_now)), (ht_pages, .inl (cI, 4, .inl x3.2.1)), (ht_table, .inl (cI, 8192, .inl x3.2.2.1)), (ht_keys, .inl (cI, 4096, .inl x3.2.2.2))] := hD
    refine lv_goto (tgt := 24) hx hb dX6_blind_19 (by decide) ?_
    have he := Option.some.inj hf
    have hP9 := hP
    have hD9 := hD
    exact W.iret (v := x3.1) hx hb hr (fun t eth hW => ⟨⟨x3.1, (x3.2.1, x3.2.2.1, x3.2.2.2), rfl, ⟨(congrArg Prod.fst he).symm, (congrArg Prod.snd he).symm⟩, by rw [eth]; exact hP9, va_K.moved hW.alike hK, hD9⟩, hS.F eth⟩) hS.2.2 dX6_blind_24
theorem hd_X6_whom : yX6_whom.cls = RX6 ∧ yX6_whom.cls ≠ "java/lang/invoke/MethodHandle" ∧ yX6_whom.cls ≠ "java/lang/invoke/VarHandle" ∧ (parseMethodDescriptor yX6_whom.desc).map (fun d => d.parameters.length) = some 1 := by decide +kernel
abbrev rm_X6_whom : Room := { frames := 6, cells := 0, slots := 0, locals := 142 }
abbrev q_X6_whom (dC : Nat → ClassId) (dI : Nat → Nat → Nat) (cI cJ cZ : ClassId) (ht ht_drops ht_tires ht_now ht_told ht_text ht_pages ht_row ht_alike ht_table ht_keys ht_own ht_isKept ht_kept : Nat) (vt_clerks : Int32) (vt_length : Int32) (vt_acts : Int32) (vt_next : Int32) (vt_found : Int32) (vt_seed : Int64) (vt_drops : Nat → Int32) (vt_tires : Nat → Int32) (vt_now : Nat → Int32) (R : Int32 × (Nat → Int32) × (Nat → Int32) × (Nat → Int32)) (A : Nat → Prop) : Array Value → State → Outcome → State → Prop := va_Qi (fun (r : Int32) (u : (Nat → Int32) × (Nat → Int32) × (Nat → Int32)) => R.1 = r ∧ R.2 = u) (fun (u : (Nat → Int32) × (Nat → Int32) × (Nat → Int32)) (t : State) => va_P (dC, dI) vwCl [(ht, .inr (5, [.int vt_clerks, .ref ht_drops, .ref ht_tires, .ref ht_now, .ref ht_told, .ref ht_text, .int vt_length, .ref ht_pages, .int vt_acts, .int vt_next, .ref ht_row, .int vt_found, .ref ht_alike, .ref ht_table, .ref ht_keys, .ref ht_own, .long vt_seed, .ref ht_isKept, .ref ht_kept])), (ht_drops, .inl (cI, 4, .inl vt_drops)), (ht_tires, .inl (cI, 4, .inl vt_tires)), (ht_now, .inl (cI, 13, .inl vt_now)), (ht_pages, .inl (cI, 4, .inl u.1)), (ht_table, .inl (cI, 8192, .inl u.2.1)), (ht_keys, .inl (cI, 4096, .inl u.2.2))] t.heap ∧ va_K (dC, dI) vwCl [(cI, .int), (cJ, .long), (cZ, .boolean)] t ∧ va_D A [(ht, .inr (5, [.int vt_clerks, .ref ht_drops, .ref ht_tires, .ref ht_now, .ref ht_told, .ref ht_text, .int vt_length, .ref ht_pages, .int vt_acts, .int vt_next, .ref ht_row, .int vt_found, .ref ht_alike, .ref ht_table, .ref ht_keys, .ref ht_own, .long vt_seed, .ref ht_isKept, .ref ht_kept])), (ht_drops, .inl (cI, 4, .inl vt_drops)), (ht_tires, .inl (cI, 4, .inl vt_tires)), (ht_now, .inl (cI, 13, .inl vt_now)), (ht_pages, .inl (cI, 4, .inl u.1)), (ht_table, .inl (cI, 8192, .inl u.2.1)), (ht_keys, .inl (cI, 4096, .inl u.2.2))]) A
set_option maxHeartbeats 4000000 in
set_option maxRecDepth 100000 in
theorem k_X6_whom (l : Launch) (dC : Nat → ClassId) (dI : Nat → Nat → Nat) (cI cJ cZ : ClassId) (sz : Nat) (ht ht_drops ht_tires ht_now ht_told ht_text ht_pages ht_row ht_alike ht_table ht_keys ht_own ht_isKept ht_kept : Nat) (a1 : Int32) (vt_clerks : Int32) (vt_length : Int32) (vt_acts : Int32) (vt_next : Int32) (vt_found : Int32) (vt_seed : Int64) (vt_drops : Nat → Int32) (vt_tires : Nat → Int32) (vt_now : Nat → Int32) (vt_pages : Nat → Int32) (vt_table : Nat → Int32) (vt_keys : Nat → Int32) (N : Nat) (R : Int32 × (Nat → Int32) × (Nat → Int32) × (Nat → Int32)) (hf : f_X6_whom N a1 vt_clerks vt_drops vt_tires vt_now vt_pages vt_table vt_keys = some R) : Met l yX6_whom wsX6_whom (rm_X6_whom) (va_Pc [.ref ht, .int a1] (fun U => U.heap.size = sz ∧ va_P (dC, dI) vwCl [(ht, .inr (5, [.int vt_clerks, .ref ht_drops, .ref ht_tires, .ref ht_now, .ref ht_told, .ref ht_text, .int vt_length, .ref ht_pages, .int vt_acts, .int vt_next, .ref ht_row, .int vt_found, .ref ht_alike, .ref ht_table, .ref ht_keys, .ref ht_own, .long vt_seed, .ref ht_isKept, .ref ht_kept])), (ht_drops, .inl (cI, 4, .inl vt_drops)), (ht_tires, .inl (cI, 4, .inl vt_tires)), (ht_now, .inl (cI, 13, .inl vt_now)), (ht_pages, .inl (cI, 4, .inl vt_pages)), (ht_table, .inl (cI, 8192, .inl vt_table)), (ht_keys, .inl (cI, 4096, .inl vt_keys))] U.heap ∧ va_K (dC, dI) vwCl [(cI, .int), (cJ, .long), (cZ, .boolean)] U ∧ va_D (fun _ => True) [(ht, .inr (5, [.int vt_clerks, .ref ht_drops, .ref ht_tires, .ref ht_now, .ref ht_told, .ref ht_text, .int vt_length, .ref ht_pages, .int vt_acts, .int vt_next, .ref ht_row, .int vt_found, .ref ht_alike, .ref ht_table, .ref ht_keys, .ref ht_own, .long vt_seed, .ref ht_isKept, .ref ht_kept])), (ht_drops, .inl (cI, 4, .inl vt_drops)), (ht_tires, .inl (cI, 4, .inl vt_tires)), (ht_now, .inl (cI, 13, .inl vt_now)), (ht_pages, .inl (cI, 4, .inl vt_pages)), (ht_table, .inl (cI, 8192, .inl vt_table)), (ht_keys, .inl (cI, 4096, .inl vt_keys))])) (q_X6_whom dC dI cI cJ cZ ht ht_drops ht_tires ht_now ht_told ht_text ht_pages ht_row ht_alike ht_table ht_keys ht_own ht_isKept ht_kept vt_clerks vt_length vt_acts vt_next vt_found vt_seed vt_drops vt_tires vt_now R (va_A [(ht, .inr (5, [.int vt_clerks, .ref ht_drops, .ref ht_tires, .ref ht_now, .ref ht_told, .ref ht_text, .int vt_length, .ref ht_pages, .int vt_acts, .int vt_next, .ref ht_row, .int vt_found, .ref ht_alike, .ref ht_table, .ref ht_keys, .ref ht_own, .long vt_seed, .ref ht_isKept, .ref ht_kept])), (ht_drops, .inl (cI, 4, .inl vt_drops)), (ht_tires, .inl (cI, 4, .inl vt_tires)), (ht_now, .inl (cI, 13, .inl vt_now)), (ht_pages, .inl (cI, 4, .inl vt_pages)), (ht_table, .inl (cI, 8192, .inl vt_table)), (ht_keys, .inl (cI, 4096, .inl vt_keys))] sz)) 0 0 (va_A [(ht, .inr (5, [.int vt_clerks, .ref ht_drops, .ref ht_tires, .ref ht_now, .ref ht_told, .ref ht_text, .int vt_length, .ref ht_pages, .int vt_acts, .int vt_next, .ref ht_row, .int vt_found, .ref ht_alike, .ref ht_table, .ref ht_keys, .ref ht_own, .long vt_seed, .ref ht_isKept, .ref ht_kept])), (ht_drops, .inl (cI, 4, .inl vt_drops)), (ht_tires, .inl (cI, 4, .inl vt_tires)), (ht_now, .inl (cI, 13, .inl vt_now)), (ht_pages, .inl (cI, 4, .inl vt_pages)), (ht_table, .inl (cI, 8192, .inl vt_table)), (ht_keys, .inl (cI, 4096, .inl vt_keys))] sz) := by
  refine Met.ofW (cc := cX6_whom) (maxL := 6) (ret := (some .int)) (by decide) rfl ?_
  intro p e s m args below meth c s₁ B hml hv
  obtain ⟨rfl, hsz, hP, hK, hD0⟩ := hv
  have hx := B.exec
  have hb := B.bytes
  have hr := B.returns
  have hts := atoms_spec (ws := wsX6_whom) B.pre
  have hown : s.vm.findClass RX6 = some m.cls := findClass_of_methodNamed B.named
  have hlocks := B.notSynchronized
  clear B
  subst hsz
  have hw0 := hts (.constantLong RX6 124 (5)) (by decide +kernel)
  have hw1 := hts (.fieldLink RX6 79 "ShorthandCourtModel" "clerks" "I") (by decide +kernel)
  have hinX6 : ∀ w ∈ u_ws RX6 TX6 19, w ∈ wsX6_whom := by decide +kernel
  have hD := hD0.self (sz := s.heap.size)
  clear hD0
  generalize hAe : va_A [(ht, .inr (5, [.int vt_clerks, .ref ht_drops, .ref ht_tires, .ref ht_now, .ref ht_told, .ref ht_text, .int vt_length, .ref ht_pages, .int vt_acts, .int vt_next, .ref ht_row, .int vt_found, .ref ht_alike, .ref ht_table, .ref ht_keys, .ref ht_own, .long vt_seed, .ref ht_isKept, .ref ht_kept])), (ht_drops, .inl (cI, 4, .inl vt_drops)), (ht_tires, .inl (cI, 4, .inl vt_tires)), (ht_now, .inl (cI, 13, .inl vt_now)), (ht_pages, .inl (cI, 4, .inl vt_pages)), (ht_table, .inl (cI, 8192, .inl vt_table)), (ht_keys, .inl (cI, 4096, .inl vt_keys))] s.heap.size = A at hD ⊢
  have hA : ∀ q : Nat, s.heap.size ≤ q → A q := fun q h => by rw [← hAe]; exact Or.inr h
  clear hAe
  have hS : va_S A s.heap s.heap [] := va_S.rf
  have hl := lv_entry ([.ref ht, .int a1]) (n := 6) (Nat.le_of_ble_eq_true rfl)
  rw [lg_entry_eq]
  generalize (lg_sl ([.ref ht, .int a1]) ++ List.replicate (6 - (lg_sl ([.ref ht, .int a1])).length) Slot.unset).toArray = ls at hl ⊢
  have hl : lv_has ls 6 [(0, .ref ht), (1, .int a1)] := hl
  unfold f_X6_whom at hf
  refine lv_iload_n hx hb dX6_whom_0 rfl (lv_at hl 1 rfl) ?_
  refine lv_i2l hx hb dX6_whom_1 rfl ?_
  refine lv_lconst (v := 0) hx hb dX6_whom_2 (by decide) ?_
  refine lv_ldc2 (v := 5) hx hb hown hw0 dX6_whom_3 ?_
  obtain ⟨x1, hx1, hf⟩ := dg_bind hf
  have hPc : va_P (dC, dI) vwCl [] s.heap := hP.sub [] rfl
  have hDc : va_D A [] := hD.sub [] (by decide) rfl
  have hFc := va_free (wc := []) hD hS hA [] rfl
  refine va_calli (va_runS (As := [.long a1.toInt64, .long (0:Int64), .long (5:Int64)]) (rest := []) ⟨hx, hb, hml, hown, hts⟩ (k_X6_in l dC dI cI cJ cZ s.heap.size a1.toInt64 (0:Int64) (5:Int64) N x1 hx1) (va_cwS 3 hts gX6_whom_X6_in rfl rfl rfl hd_X6_in ⟨Nat.le_of_ble_eq_true rfl, Nat.le_of_ble_eq_true rfl⟩) ⟨blind_pc, pre_pc hPc hK hDc⟩ rfl rfl hl.1 rfl (lv_room (Nat.le_of_ble_eq_true rfl)) dX6_whom_6 ⟨Nat.zero_le _, Nat.zero_le _⟩) hS (fun q _ h => hFc q h) hFc (fun r u t H1 locs eth hvm hw hB hz1 hk1 hS => ?_)
  obtain ⟨hP1, hK1, hD1⟩ := hB
  rw [eth] at hP1
  subst hw
  obtain ⟨hP, hD⟩ := va_join (wr := [(ht, .inr (5, [.int vt_clerks, .ref ht_drops, .ref ht_tires, .ref ht_now, .ref ht_told, .ref ht_text, .int vt_length, .ref ht_pages, .int vt_acts, .int vt_next, .ref ht_row, .int vt_found, .ref ht_alike, .ref ht_table, .ref ht_keys, .ref ht_own, .long vt_seed, .ref ht_isKept, .ref ht_kept])), (ht_drops, .inl (cI, 4, .inl vt_drops)), (ht_tires, .inl (cI, 4, .inl vt_tires)), (ht_now, .inl (cI, 13, .inl vt_now)), (ht_pages, .inl (cI, 4, .inl vt_pages)), (ht_table, .inl (cI, 8192, .inl vt_table)), (ht_keys, .inl (cI, 4096, .inl vt_keys))]) (w1 := []) hP hD [] [0, 1, 2, 3, 4, 5, 6] rfl rfl (by decide) (by decide) hk1 hFc hP1 hD1
  clear hP1 hK1 hD1 hPc hDc hFc hk1 hz1 hvm eth
  generalize H1 = H at hP hS ⊢
  have hP : va_P (dC, dI) vwCl [(ht, .inr (5, [.int vt_clerks, .ref ht_drops, .ref ht_tires, .ref ht_now, .ref ht_told, .ref ht_text, .int vt_length, .ref ht_pages, .int vt_acts, .int vt_next, .ref ht_row, .int vt_found, .ref ht_alike, .ref ht_table, .ref ht_keys, .ref ht_own, .long vt_seed, .ref ht_isKept, .ref ht_kept])), (ht_drops, .inl (cI, 4, .inl vt_drops)), (ht_tires, .inl (cI, 4, .inl vt_tires)), (ht_now, .inl (cI, 13, .inl vt_now)), (ht_pages, .inl (cI, 4, .inl vt_pages)), (ht_table, .inl (cI, 8192, .inl vt_table)), (ht_keys, .inl (cI, 4096, .inl vt_keys))] H := hP
  have hD : va_D A [(ht, .inr (5, [.int vt_clerks, .ref ht_drops, .ref ht_tires, .ref ht_now, .ref ht_told, .ref ht_text, .int vt_length, .ref ht_pages, .int vt_acts, .int vt_next, .ref ht_row, .int vt_found, .ref ht_alike, .ref ht_table, .ref ht_keys, .ref ht_own, .long vt_seed, .ref ht_isKept, .ref ht_kept])), (ht_drops, .inl (cI, 4, .inl vt_drops)), (ht_tires, .inl (cI, 4, .inl vt_tires)), (ht_now, .inl (cI, 13, .inl vt_now)), (ht_pages, .inl (cI, 4, .inl vt_pages)), (ht_table, .inl (cI, 8192, .inl vt_table)), (ht_keys, .inl (cI, 4096, .inl vt_keys))] := hD
  refine lv_if_ne (tgt := 15) hx hb dX6_whom_9 (by decide) (fun c2 => ?_) (fun c2 => ?_)
  · replace hf := dg_f c2 hf
    refine lv_aload_n hx hb dX6_whom_15 rfl (lv_at hl 0 rfl) ?_
    refine lv_iload_n hx hb dX6_whom_16 rfl (lv_at hl 1 rfl) ?_
    refine lv_bipush (v := -9) hx hb dX6_whom_17 (by decide) ?_
    obtain ⟨x3, hx3, hf⟩ := dg_bind hf
    have hPc : va_P (dC, dI) vwCl [(ht, .inr (5, [.int vt_clerks, .ref ht_drops, .ref ht_tires, .ref ht_now, .ref ht_told, .ref ht_text, .int vt_length, .ref ht_pages, .int vt_acts, .int vt_next, .ref ht_row, .int vt_found, .ref ht_alike, .ref ht_table, .ref ht_keys, .ref ht_own, .long vt_seed, .ref ht_isKept, .ref ht_kept])), (ht_drops, .inl (cI, 4, .inl vt_drops)), (ht_tires, .inl (cI, 4, .inl vt_tires)), (ht_now, .inl (cI, 13, .inl vt_now)), (ht_pages, .inl (cI, 4, .inl vt_pages)), (ht_table, .inl (cI, 8192, .inl vt_table)), (ht_keys, .inl (cI, 4096, .inl vt_keys))] H := hP.sub [0, 1, 2, 3, 4, 5, 6] rfl
    have hDc : va_D A [(ht, .inr (5, [.int vt_clerks, .ref ht_drops, .ref ht_tires, .ref ht_now, .ref ht_told, .ref ht_text, .int vt_length, .ref ht_pages, .int vt_acts, .int vt_next, .ref ht_row, .int vt_found, .ref ht_alike, .ref ht_table, .ref ht_keys, .ref ht_own, .long vt_seed, .ref ht_isKept, .ref ht_kept])), (ht_drops, .inl (cI, 4, .inl vt_drops)), (ht_tires, .inl (cI, 4, .inl vt_tires)), (ht_now, .inl (cI, 13, .inl vt_now)), (ht_pages, .inl (cI, 4, .inl vt_pages)), (ht_table, .inl (cI, 8192, .inl vt_table)), (ht_keys, .inl (cI, 4096, .inl vt_keys))] := hD.sub [0, 1, 2, 3, 4, 5, 6] (by decide) rfl
    have hFc := va_free (wc := [(ht, .inr (5, [.int vt_clerks, .ref ht_drops, .ref ht_tires, .ref ht_now, .ref ht_told, .ref ht_text, .int vt_length, .ref ht_pages, .int vt_acts, .int vt_next, .ref ht_row, .int vt_found, .ref ht_alike, .ref ht_table, .ref ht_keys, .ref ht_own, .long vt_seed, .ref ht_isKept, .ref ht_kept])), (ht_drops, .inl (cI, 4, .inl vt_drops)), (ht_tires, .inl (cI, 4, .inl vt_tires)), (ht_now, .inl (cI, 13, .inl vt_now)), (ht_pages, .inl (cI, 4, .inl vt_pages)), (ht_table, .inl (cI, 8192, .inl vt_table)), (ht_keys, .inl (cI, 4096, .inl vt_keys))]) hD hS hA [0, 1, 2, 3, 4, 5, 6] rfl
    refine va_calli (va_runV (As := [.int a1, .int (-9:Int32)]) (rest := []) ⟨hx, hb, hml, hown, hts⟩ (k_X6_blindBy l dC dI cI cJ cZ H.size ht ht_drops ht_tires ht_now ht_told ht_text ht_pages ht_row ht_alike ht_table ht_keys ht_own ht_isKept ht_kept a1 (-9:Int32) vt_clerks vt_length vt_acts vt_next vt_found vt_seed vt_drops vt_tires vt_now vt_pages vt_table vt_keys N x3 hx3) (cwV 2 hts gX6_whom_X6_blindBy rfl rfl rfl hd_X6_blindBy ⟨Nat.le_of_ble_eq_true rfl, Nat.le_of_ble_eq_true rfl⟩) ⟨blind_pc, va_recv hK hPc (ci := 5) (q0 := 0) rfl rfl, pre_pc hPc hK hDc⟩ rfl rfl hl.1 rfl (lv_room (Nat.le_of_ble_eq_true rfl)) dX6_whom_19 ⟨Nat.zero_le _, Nat.zero_le _⟩) hS (fun q _ h => hFc q h) hFc (fun r u t H1 locs eth hvm hw hB hz1 hk1 hS => ?_)
    obtain ⟨hP1, hK1, hD1⟩ := hB
    rw [eth] at hP1
    obtain ⟨hw, hw2⟩ := hw
    subst hw; subst hw2
    obtain ⟨hP, hD⟩ := va_join (wr := []) (w1 := [(ht, .inr (5, [.int vt_clerks, .ref ht_drops, .ref ht_tires, .ref ht_now, .ref ht_told, .ref ht_text, .int vt_length, .ref ht_pages, .int vt_acts, .int vt_next, .ref ht_row, .int vt_found, .ref ht_alike, .ref ht_table, .ref ht_keys, .ref ht_own, .long vt_seed, .ref ht_isKept, .ref ht_kept])), (ht_drops, .inl (cI, 4, .inl vt_drops)), (ht_tires, .inl (cI, 4, .inl vt_tires)), (ht_now, .inl (cI, 13, .inl vt_now)), (ht_pages, .inl (cI, 4, .inl x3.2.1)), (ht_table, .inl (cI, 8192, .inl x3.2.2.1)), (ht_keys, .inl (cI, 4096, .inl x3.2.2.2))]) hP hD [0, 1, 2, 3, 4, 5, 6] [] rfl rfl (by decide) (by decide) hk1 hFc hP1 hD1
    clear hP1 hK1 hD1 hPc hDc hFc hk1 hz1 hvm eth
    generalize H1 = H at hP hS ⊢
    have hP : va_P (dC, dI) vwCl [(ht, .inr (5, [.int vt_clerks, .ref ht_drops, .ref ht_tires, .ref ht_now, .ref ht_told, .ref ht_text, .int vt_length, .ref ht_pages, .int vt_acts, .int vt_next, .ref ht_row, .int vt_found, .ref ht_alike, .ref ht_table, .ref ht_keys, .ref ht_own, .long vt_seed, .ref ht_isKept, .ref ht_kept])), (ht_drops, .inl (cI, 4, .inl vt_drops)), (ht_tires, .inl (cI, 4, .inl vt_tires)), (ht_now, .inl (cI, 13, .inl vt_now)), (ht_pages, .inl (cI, 4, .inl x3.2.1)), (ht_table, .inl (cI, 8192, .inl x3.2.2.1)), (ht_keys, .inl (cI, 4096, .inl x3.2.2.2))] H := hP
    have hD : va_D A [(ht, .inr (5, [.int vt_clerks, .ref ht_drops, .ref ht_tires, .ref ht_now, .ref ht_told, .ref ht_text, .int vt_length, .ref ht_pages, .int vt_acts, .int vt_next, .ref ht_row, .int vt_found, .ref ht_alike, .ref ht_table, .ref ht_keys, .ref ht_own, .long vt_seed, .ref ht_isKept, .ref ht_kept])), (ht_drops, .inl (cI, 4, .inl vt_drops)), (ht_tires, .inl (cI, 4, .inl vt_tires)), (ht_now, .inl (cI, 13, .inl vt_now)), (ht_pages, .inl (cI, 4, .inl x3.2.1)), (ht_table, .inl (cI, 8192, .inl x3.2.2.1)), (ht_keys, .inl (cI, 4096, .inl x3.2.2.2))] := hD
    refine lv_istore_n (lv' := [(2, .int x3.1), (0, .ref ht), (1, .int a1)]) hx hb dX6_whom_22 rfl hl (by decide) rfl (fun ls hl => ?_)
    refine lv_bipush (v := -9) hx hb dX6_whom_23 (by decide) ?_
    refine lv_istore_n (lv' := [(3, .int (-9:Int32)), (2, .int x3.1), (0, .ref ht), (1, .int a1)]) hx hb dX6_whom_25 rfl hl (by decide) rfl (fun ls hl => ?_)
    refine lv_iconst (v := 0) hx hb dX6_whom_26 (by decide) ?_
    refine lv_istore (lv' := [(4, .int (0:Int32)), (3, .int (-9:Int32)), (2, .int x3.1), (0, .ref ht), (1, .int a1)]) hx hb dX6_whom_27 hl (by decide) rfl (fun ls hl => ?_)
    have ex29 : ∀ (z2_29 : Int32) (z3_29 : Int32) (z4_29 : Int32) (zvt_pages_29 : (Nat → Int32)) (zvt_table_29 : (Nat → Int32)) (zvt_keys_29 : (Nat → Int32)) (H : Heap) (locs : List Loc) (ls : Array Slot), va_P (dC, dI) vwCl [(ht, .inr (5, [.int vt_clerks, .ref ht_drops, .ref ht_tires, .ref ht_now, .ref ht_told, .ref ht_text, .int vt_length, .ref ht_pages, .int vt_acts, .int vt_next, .ref ht_row, .int vt_found, .ref ht_alike, .ref ht_table, .ref ht_keys, .ref ht_own, .long vt_seed, .ref ht_isKept, .ref ht_kept])), (ht_drops, .inl (cI, 4, .inl vt_drops)), (ht_tires, .inl (cI, 4, .inl vt_tires)), (ht_now, .inl (cI, 13, .inl vt_now)), (ht_pages, .inl (cI, 4, .inl zvt_pages_29)), (ht_table, .inl (cI, 8192, .inl zvt_table_29)), (ht_keys, .inl (cI, 4096, .inl zvt_keys_29))] H → va_D A [(ht, .inr (5, [.int vt_clerks, .ref ht_drops, .ref ht_tires, .ref ht_now, .ref ht_told, .ref ht_text, .int vt_length, .ref ht_pages, .int vt_acts, .int vt_next, .ref ht_row, .int vt_found, .ref ht_alike, .ref ht_table, .ref ht_keys, .ref ht_own, .long vt_seed, .ref ht_isKept, .ref ht_kept])), (ht_drops, .inl (cI, 4, .inl vt_drops)), (ht_tires, .inl (cI, 4, .inl vt_tires)), (ht_now, .inl (cI, 13, .inl vt_now)), (ht_pages, .inl (cI, 4, .inl zvt_pages_29)), (ht_table, .inl (cI, 8192, .inl zvt_table_29)), (ht_keys, .inl (cI, 4096, .inl zvt_keys_29))] → va_S A s.heap H locs → lv_has ls 6 [(4, .int z4_29), (3, .int z3_29), (2, .int z2_29), (0, .ref ht), (1, .int a1)] → (some (z3_29, (zvt_pages_29, zvt_table_29, zvt_keys_29))) = some R → W p l e (rm_X6_whom) s m ([.ref ht, .int a1] : List Value).toArray below meth c H locs 0 0 (MQ below (q_X6_whom dC dI cI cJ cZ ht ht_drops ht_tires ht_now ht_told ht_text ht_pages ht_row ht_alike ht_table ht_keys ht_own ht_isKept ht_kept vt_clerks vt_length vt_acts vt_next vt_found vt_seed vt_drops vt_tires vt_now R A) ([.ref ht, .int a1] : List Value).toArray s 0 0 A) (F0 m 79 ls []) := by
      intro z2_29 z3_29 z4_29 zvt_pages_29 zvt_table_29 zvt_keys_29 H locs ls hP hD hS hl hf
      refine lv_iload_n hx hb dX6_whom_79 rfl (lv_at hl 1 rfl) ?_
      have he := Option.some.inj hf
      have hP9 := hP
      have hD9 := hD
      exact W.iret (v := z3_29) hx hb hr (fun t eth hW => ⟨⟨z3_29, (zvt_pages_29, zvt_table_29, zvt_keys_29), rfl, ⟨(congrArg Prod.fst he).symm, (congrArg Prod.snd he).symm⟩, by rw [eth]; exact hP9, va_K.moved hW.alike hK, hD9⟩, hS.F eth⟩) hS.2.2 dX6_whom_80
    have lp29 : ∀ (n29 : Nat) (y2_29 : Int32) (y3_29 : Int32) (y4_29 : Int32) (yvt_pages_29 : (Nat → Int32)) (yvt_table_29 : (Nat → Int32)) (yvt_keys_29 : (Nat → Int32)) (H : Heap) (locs : List Loc) (ls : Array Slot), va_P (dC, dI) vwCl [(ht, .inr (5, [.int vt_clerks, .ref ht_drops, .ref ht_tires, .ref ht_now, .ref ht_told, .ref ht_text, .int vt_length, .ref ht_pages, .int vt_acts, .int vt_next, .ref ht_row, .int vt_found, .ref ht_alike, .ref ht_table, .ref ht_keys, .ref ht_own, .long vt_seed, .ref ht_isKept, .ref ht_kept])), (ht_drops, .inl (cI, 4, .inl vt_drops)), (ht_tires, .inl (cI, 4, .inl vt_tires)), (ht_now, .inl (cI, 13, .inl vt_now)), (ht_pages, .inl (cI, 4, .inl yvt_pages_29)), (ht_table, .inl (cI, 8192, .inl yvt_table_29)), (ht_keys, .inl (cI, 4096, .inl yvt_keys_29))] H → va_D A [(ht, .inr (5, [.int vt_clerks, .ref ht_drops, .ref ht_tires, .ref ht_now, .ref ht_told, .ref ht_text, .int vt_length, .ref ht_pages, .int vt_acts, .int vt_next, .ref ht_row, .int vt_found, .ref ht_alike, .ref ht_table, .ref ht_keys, .ref ht_own, .long vt_seed, .ref ht_isKept, .ref ht_kept])), (ht_drops, .inl (cI, 4, .inl vt_drops)), (ht_tires, .inl (cI, 4, .inl vt_tires)), (ht_now, .inl (cI, 13, .inl vt_now)), (ht_pages, .inl (cI, 4, .inl yvt_pages_29)), (ht_table, .inl (cI, 8192, .inl yvt_table_29)), (ht_keys, .inl (cI, 4096, .inl yvt_keys_29))] → va_S A s.heap H locs → lv_has ls 6 [(4, .int y4_29), (3, .int y3_29), (2, .int y2_29), (0, .ref ht), (1, .int a1)] → f_X6_whom_29 N a1 vt_clerks vt_drops vt_tires vt_now (fun z2_29 z3_29 z4_29 zvt_pages_29 zvt_table_29 zvt_keys_29 => some (z3_29, (zvt_pages_29, zvt_table_29, zvt_keys_29))) n29 y2_29 y3_29 y4_29 yvt_pages_29 yvt_table_29 yvt_keys_29 = some R → W p l e (rm_X6_whom) s m ([.ref ht, .int a1] : List Value).toArray below meth c H locs 0 0 (MQ below (q_X6_whom dC dI cI cJ cZ ht ht_drops ht_tires ht_now ht_told ht_text ht_pages ht_row ht_alike ht_table ht_keys ht_own ht_isKept ht_kept vt_clerks vt_length vt_acts vt_next vt_found vt_seed vt_drops vt_tires vt_now R A) ([.ref ht, .int a1] : List Value).toArray s 0 0 A) (F0 m 29 ls []) := by
      intro n29
      induction n29 with
      | zero => intro y2_29 y3_29 y4_29 yvt_pages_29 yvt_table_29 yvt_keys_29 H locs ls hP hD hS hl hf; rw [f_X6_whom_29] at hf; cases hf
      | succ n29 ih29 =>
        intro y2_29 y3_29 y4_29 yvt_pages_29 yvt_table_29 yvt_keys_29 H locs ls hP hD hS hl hf
        rw [f_X6_whom_29] at hf
        refine lv_iload hx hb dX6_whom_29 (lv_at hl 0 rfl) ?_
        refine lv_aload_n hx hb dX6_whom_31 rfl (lv_at hl 3 rfl) ?_
        refine va_get (D := (dC, dI)) (ci := 5) (v := .int vt_clerks) (C := RX6) (T := TX6) (N := 19) hx hb hts hinX6 hown hK hP 0 rfl rfl 0 (by decide) hw1 (fun _ h9 => h9) rfl dX6_whom_32 ?_
        refine lv_icmp_ge (tgt := 79) hx hb dX6_whom_35 (by decide) (fun c4 => ?_) (fun c4 => ?_)
        · replace hf := dg_t c4 hf
          exact ex29 y2_29 y3_29 y4_29 yvt_pages_29 yvt_table_29 yvt_keys_29 _ _ _ hP hD hS (lv_sub hl [0, 1, 2, 3, 4] rfl) hf
        · replace hf := dg_f c4 hf
          refine lv_aload_n hx hb dX6_whom_38 rfl (lv_at hl 3 rfl) ?_
          refine lv_iload_n hx hb dX6_whom_39 rfl (lv_at hl 4 rfl) ?_
          refine lv_iload hx hb dX6_whom_40 (lv_at hl 0 rfl) ?_
          obtain ⟨x5, hx5, hf⟩ := dg_bind hf
          have hPc : va_P (dC, dI) vwCl [(ht, .inr (5, [.int vt_clerks, .ref ht_drops, .ref ht_tires, .ref ht_now, .ref ht_told, .ref ht_text, .int vt_length, .ref ht_pages, .int vt_acts, .int vt_next, .ref ht_row, .int vt_found, .ref ht_alike, .ref ht_table, .ref ht_keys, .ref ht_own, .long vt_seed, .ref ht_isKept, .ref ht_kept])), (ht_drops, .inl (cI, 4, .inl vt_drops)), (ht_tires, .inl (cI, 4, .inl vt_tires)), (ht_now, .inl (cI, 13, .inl vt_now)), (ht_pages, .inl (cI, 4, .inl yvt_pages_29)), (ht_table, .inl (cI, 8192, .inl yvt_table_29)), (ht_keys, .inl (cI, 4096, .inl yvt_keys_29))] H := hP.sub [0, 1, 2, 3, 4, 5, 6] rfl
          have hDc : va_D A [(ht, .inr (5, [.int vt_clerks, .ref ht_drops, .ref ht_tires, .ref ht_now, .ref ht_told, .ref ht_text, .int vt_length, .ref ht_pages, .int vt_acts, .int vt_next, .ref ht_row, .int vt_found, .ref ht_alike, .ref ht_table, .ref ht_keys, .ref ht_own, .long vt_seed, .ref ht_isKept, .ref ht_kept])), (ht_drops, .inl (cI, 4, .inl vt_drops)), (ht_tires, .inl (cI, 4, .inl vt_tires)), (ht_now, .inl (cI, 13, .inl vt_now)), (ht_pages, .inl (cI, 4, .inl yvt_pages_29)), (ht_table, .inl (cI, 8192, .inl yvt_table_29)), (ht_keys, .inl (cI, 4096, .inl yvt_keys_29))] := hD.sub [0, 1, 2, 3, 4, 5, 6] (by decide) rfl
          have hFc := va_free (wc := [(ht, .inr (5, [.int vt_clerks, .ref ht_drops, .ref ht_tires, .ref ht_now, .ref ht_told, .ref ht_text, .int vt_length, .ref ht_pages, .int vt_acts, .int vt_next, .ref ht_row, .int vt_found, .ref ht_alike, .ref ht_table, .ref ht_keys, .ref ht_own, .long vt_seed, .ref ht_isKept, .ref ht_kept])), (ht_drops, .inl (cI, 4, .inl vt_drops)), (ht_tires, .inl (cI, 4, .inl vt_tires)), (ht_now, .inl (cI, 13, .inl vt_now)), (ht_pages, .inl (cI, 4, .inl yvt_pages_29)), (ht_table, .inl (cI, 8192, .inl yvt_table_29)), (ht_keys, .inl (cI, 4096, .inl yvt_keys_29))]) hD hS hA [0, 1, 2, 3, 4, 5, 6] rfl
          refine va_calli (va_runV (As := [.int a1, .int y4_29]) (rest := []) ⟨hx, hb, hml, hown, hts⟩ (k_X6_blindBy l dC dI cI cJ cZ H.size ht ht_drops ht_tires ht_now ht_told ht_text ht_pages ht_row ht_alike ht_table ht_keys ht_own ht_isKept ht_kept a1 y4_29 vt_clerks vt_length vt_acts vt_next vt_found vt_seed vt_drops vt_tires vt_now yvt_pages_29 yvt_table_29 yvt_keys_29 N x5 hx5) (cwV 2 hts gX6_whom_X6_blindBy rfl rfl rfl hd_X6_blindBy ⟨Nat.le_of_ble_eq_true rfl, Nat.le_of_ble_eq_true rfl⟩) ⟨blind_pc, va_recv hK hPc (ci := 5) (q0 := 0) rfl rfl, pre_pc hPc hK hDc⟩ rfl rfl hl.1 rfl (lv_room (Nat.le_of_ble_eq_true rfl)) dX6_whom_42 ⟨Nat.zero_le _, Nat.zero_le _⟩) hS (fun q _ h => hFc q h) hFc (fun r u t H1 locs eth hvm hw hB hz1 hk1 hS => ?_)
          obtain ⟨hP1, hK1, hD1⟩ := hB
          rw [eth] at hP1
          obtain ⟨hw, hw2⟩ := hw
          subst hw; subst hw2
          obtain ⟨hP, hD⟩ := va_join (wr := []) (w1 := [(ht, .inr (5, [.int vt_clerks, .ref ht_drops, .ref ht_tires, .ref ht_now, .ref ht_told, .ref ht_text, .int vt_length, .ref ht_pages, .int vt_acts, .int vt_next, .ref ht_row, .int vt_found, .ref ht_alike, .ref ht_table, .ref ht_keys, .ref ht_own, .long vt_seed, .ref ht_isKept, .ref ht_kept])), (ht_drops, .inl (cI, 4, .inl vt_drops)), (ht_tires, .inl (cI, 4, .inl vt_tires)), (ht_now, .inl (cI, 13, .inl vt_now)), (ht_pages, .inl (cI, 4, .inl x5.2.1)), (ht_table, .inl (cI, 8192, .inl x5.2.2.1)), (ht_keys, .inl (cI, 4096, .inl x5.2.2.2))]) hP hD [0, 1, 2, 3, 4, 5, 6] [] rfl rfl (by decide) (by decide) hk1 hFc hP1 hD1
          clear hP1 hK1 hD1 hPc hDc hFc hk1 hz1 hvm eth
          generalize H1 = H at hP hS ⊢
          have hP : va_P (dC, dI) vwCl [(ht, .inr (5, [.int vt_clerks, .ref ht_drops, .ref ht_tires, .ref ht_now, .ref ht_told, .ref ht_text, .int vt_length, .ref ht_pages, .int vt_acts, .int vt_next, .ref ht_row, .int vt_found, .ref ht_alike, .ref ht_table, .ref ht_keys, .ref ht_own, .long vt_seed, .ref ht_isKept, .ref ht_kept])), (ht_drops, .inl (cI, 4, .inl vt_drops)), (ht_tires, .inl (cI, 4, .inl vt_tires)), (ht_now, .inl (cI, 13, .inl vt_now)), (ht_pages, .inl (cI, 4, .inl x5.2.1)), (ht_table, .inl (cI, 8192, .inl x5.2.2.1)), (ht_keys, .inl (cI, 4096, .inl x5.2.2.2))] H := hP
          have hD : va_D A [(ht, .inr (5, [.int vt_clerks, .ref ht_drops, .ref ht_tires, .ref ht_now, .ref ht_told, .ref ht_text, .int vt_length, .ref ht_pages, .int vt_acts, .int vt_next, .ref ht_row, .int vt_found, .ref ht_alike, .ref ht_table, .ref ht_keys, .ref ht_own, .long vt_seed, .ref ht_isKept, .ref ht_kept])), (ht_drops, .inl (cI, 4, .inl vt_drops)), (ht_tires, .inl (cI, 4, .inl vt_tires)), (ht_now, .inl (cI, 13, .inl vt_now)), (ht_pages, .inl (cI, 4, .inl x5.2.1)), (ht_table, .inl (cI, 8192, .inl x5.2.2.1)), (ht_keys, .inl (cI, 4096, .inl x5.2.2.2))] := hD
          refine lv_istore (lv' := [(5, .int x5.1), (4, .int y4_29), (3, .int y3_29), (2, .int y2_29), (0, .ref ht), (1, .int a1)]) hx hb dX6_whom_45 hl (by decide) rfl (fun ls hl => ?_)
          refine lv_iload hx hb dX6_whom_47 (lv_at hl 0 rfl) ?_
          refine lv_iload_n hx hb dX6_whom_49 rfl (lv_at hl 3 rfl) ?_
          refine lv_icmp_ge (tgt := 58) hx hb dX6_whom_50 (by decide) (fun c6 => ?_) (fun c6 => ?_)
          · replace hf := dg_t c6 hf
            refine lv_iload_n hx hb dX6_whom_58 rfl (lv_at hl 2 rfl) ?_
            refine lv_istore_n (lv' := [(3, .int y3_29), (5, .int x5.1), (4, .int y4_29), (2, .int y2_29), (0, .ref ht), (1, .int a1)]) hx hb dX6_whom_59 rfl hl (by decide) rfl (fun ls hl => ?_)
            refine lv_iload hx hb dX6_whom_60 (lv_at hl 1 rfl) ?_
            refine lv_iload_n hx hb dX6_whom_62 rfl (lv_at hl 3 rfl) ?_
            refine lv_icmp_ge (tgt := 71) hx hb dX6_whom_63 (by decide) (fun c7 => ?_) (fun c7 => absurd c6 c7)
            refine lv_iload_n hx hb dX6_whom_71 rfl (lv_at hl 3 rfl) ?_
            refine lv_istore_n (lv' := [(2, .int y2_29), (3, .int y3_29), (5, .int x5.1), (4, .int y4_29), (0, .ref ht), (1, .int a1)]) hx hb dX6_whom_72 rfl hl (by decide) rfl (fun ls hl => ?_)
            refine lv_iinc (v := (y4_29 + (1:Int32))) (lv' := [(4, .int (y4_29 + (1:Int32))), (2, .int y2_29), (3, .int y3_29), (5, .int x5.1), (0, .ref ht), (1, .int a1)]) hx hb dX6_whom_73 hl (k := 3) rfl (by first | rfl | decide) (by decide) rfl (fun ls hl => ?_)
            refine lv_goto (tgt := 29) hx hb dX6_whom_76 (by decide) ?_
            exact ih29 y2_29 y3_29 (y4_29 + (1:Int32)) x5.2.1 x5.2.2.1 x5.2.2.2 _ _ _ hP hD hS (lv_sub hl [0, 2, 1, 4, 5] rfl) hf
          · replace hf := dg_f c6 hf
            refine lv_iload hx hb dX6_whom_53 (lv_at hl 1 rfl) ?_
            refine lv_goto (tgt := 59) hx hb dX6_whom_55 (by decide) ?_
            refine lv_istore_n (lv' := [(3, .int y4_29), (5, .int x5.1), (4, .int y4_29), (2, .int y2_29), (0, .ref ht), (1, .int a1)]) hx hb dX6_whom_59 rfl hl (by decide) rfl (fun ls hl => ?_)
            refine lv_iload hx hb dX6_whom_60 (lv_at hl 1 rfl) ?_
            refine lv_iload_n hx hb dX6_whom_62 rfl (lv_at hl 3 rfl) ?_
            refine lv_icmp_ge (tgt := 71) hx hb dX6_whom_63 (by decide) (fun c8 => absurd c8 c6) (fun c8 => ?_)
            refine lv_iload hx hb dX6_whom_66 (lv_at hl 1 rfl) ?_
            refine lv_goto (tgt := 72) hx hb dX6_whom_68 (by decide) ?_
            refine lv_istore_n (lv' := [(2, .int x5.1), (3, .int y4_29), (5, .int x5.1), (4, .int y4_29), (0, .ref ht), (1, .int a1)]) hx hb dX6_whom_72 rfl hl (by decide) rfl (fun ls hl => ?_)
            refine lv_iinc (v := (y4_29 + (1:Int32))) (lv' := [(4, .int (y4_29 + (1:Int32))), (2, .int x5.1), (3, .int y4_29), (5, .int x5.1), (0, .ref ht), (1, .int a1)]) hx hb dX6_whom_73 hl (k := 3) rfl (by first | rfl | decide) (by decide) rfl (fun ls hl => ?_)
            refine lv_goto (tgt := 29) hx hb dX6_whom_76 (by decide) ?_
            exact ih29 x5.1 y4_29 (y4_29 + (1:Int32)) x5.2.1 x5.2.2.1 x5.2.2.2 _ _ _ hP hD hS (lv_sub hl [0, 2, 1, 4, 5] rfl) hf
    exact lp29 N x3.1 (-9:Int32) (0:Int32) x3.2.1 x3.2.2.1 x3.2.2.2 _ _ _ hP hD hS hl hf
  · replace hf := dg_t c2 hf
    refine lv_bipush (v := -2) hx hb dX6_whom_12 (by decide) ?_
    have he := Option.some.inj hf
    have hP9 := hP
    have hD9 := hD
    exact W.iret (v := (-2:Int32)) hx hb hr (fun t eth hW => ⟨⟨(-2:Int32), (vt_pages, vt_table, vt_keys), rfl, ⟨(congrArg Prod.fst he).symm, (congrArg Prod.snd he).symm⟩, by rw [eth]; exact hP9, va_K.moved hW.alike hK, hD9⟩, hS.F eth⟩) hS.2.2 dX6_whom_14
theorem hd_X6_tells : yX6_tells.cls = RX6 ∧ yX6_tells.cls ≠ "java/lang/invoke/MethodHandle" ∧ yX6_tells.cls ≠ "java/lang/invoke/VarHandle" ∧ (parseMethodDescriptor yX6_tells.desc).map (fun d => d.parameters.length) = some 1 := by decide +kernel
abbrev rm_X6_tells : Room := { frames := 4, cells := 0, slots := 0, locals := 93 }
abbrev q_X6_tells (dC : Nat → ClassId) (dI : Nat → Nat → Nat) (cI cJ cZ : ClassId) (ht ht_drops ht_tires ht_now ht_told ht_text ht_pages ht_row ht_alike ht_table ht_keys ht_own ht_isKept ht_kept : Nat) (vt_clerks : Int32) (vt_length : Int32) (vt_acts : Int32) (vt_next : Int32) (vt_found : Int32) (vt_seed : Int64) (vt_drops : Nat → Int32) (vt_tires : Nat → Int32) (vt_now : Nat → Int32) (R : Int32 × (Nat → Int32) × (Nat → Int32)) (A : Nat → Prop) : Array Value → State → Outcome → State → Prop := va_Qi (fun (r : Int32) (u : (Nat → Int32) × (Nat → Int32)) => R.1 = r ∧ R.2 = u) (fun (u : (Nat → Int32) × (Nat → Int32)) (t : State) => va_P (dC, dI) vwCl [(ht, .inr (5, [.int vt_clerks, .ref ht_drops, .ref ht_tires, .ref ht_now, .ref ht_told, .ref ht_text, .int vt_length, .ref ht_pages, .int vt_acts, .int vt_next, .ref ht_row, .int vt_found, .ref ht_alike, .ref ht_table, .ref ht_keys, .ref ht_own, .long vt_seed, .ref ht_isKept, .ref ht_kept])), (ht_drops, .inl (cI, 4, .inl vt_drops)), (ht_tires, .inl (cI, 4, .inl vt_tires)), (ht_now, .inl (cI, 13, .inl vt_now)), (ht_pages, .inl (cI, 4, .inl u.1)), (ht_own, .inl (cI, 4, .inl u.2))] t.heap ∧ va_K (dC, dI) vwCl [(cI, .int), (cJ, .long), (cZ, .boolean)] t ∧ va_D A [(ht, .inr (5, [.int vt_clerks, .ref ht_drops, .ref ht_tires, .ref ht_now, .ref ht_told, .ref ht_text, .int vt_length, .ref ht_pages, .int vt_acts, .int vt_next, .ref ht_row, .int vt_found, .ref ht_alike, .ref ht_table, .ref ht_keys, .ref ht_own, .long vt_seed, .ref ht_isKept, .ref ht_kept])), (ht_drops, .inl (cI, 4, .inl vt_drops)), (ht_tires, .inl (cI, 4, .inl vt_tires)), (ht_now, .inl (cI, 13, .inl vt_now)), (ht_pages, .inl (cI, 4, .inl u.1)), (ht_own, .inl (cI, 4, .inl u.2))]) A
set_option maxHeartbeats 4000000 in
set_option maxRecDepth 100000 in
theorem k_X6_tells (l : Launch) (dC : Nat → ClassId) (dI : Nat → Nat → Nat) (cI cJ cZ : ClassId) (sz : Nat) (ht ht_drops ht_tires ht_now ht_told ht_text ht_pages ht_row ht_alike ht_table ht_keys ht_own ht_isKept ht_kept : Nat) (a1 : Int32) (vt_clerks : Int32) (vt_length : Int32) (vt_acts : Int32) (vt_next : Int32) (vt_found : Int32) (vt_seed : Int64) (vt_drops : Nat → Int32) (vt_tires : Nat → Int32) (vt_now : Nat → Int32) (vt_pages : Nat → Int32) (vt_own : Nat → Int32) (N : Nat) (R : Int32 × (Nat → Int32) × (Nat → Int32)) (hf : f_X6_tells N a1 vt_clerks vt_drops vt_tires vt_now vt_pages vt_own = some R) : Met l yX6_tells wsX6_tells (rm_X6_tells) (va_Pc [.ref ht, .int a1] (fun U => U.heap.size = sz ∧ va_P (dC, dI) vwCl [(ht, .inr (5, [.int vt_clerks, .ref ht_drops, .ref ht_tires, .ref ht_now, .ref ht_told, .ref ht_text, .int vt_length, .ref ht_pages, .int vt_acts, .int vt_next, .ref ht_row, .int vt_found, .ref ht_alike, .ref ht_table, .ref ht_keys, .ref ht_own, .long vt_seed, .ref ht_isKept, .ref ht_kept])), (ht_drops, .inl (cI, 4, .inl vt_drops)), (ht_tires, .inl (cI, 4, .inl vt_tires)), (ht_now, .inl (cI, 13, .inl vt_now)), (ht_pages, .inl (cI, 4, .inl vt_pages)), (ht_own, .inl (cI, 4, .inl vt_own))] U.heap ∧ va_K (dC, dI) vwCl [(cI, .int), (cJ, .long), (cZ, .boolean)] U ∧ va_D (fun _ => True) [(ht, .inr (5, [.int vt_clerks, .ref ht_drops, .ref ht_tires, .ref ht_now, .ref ht_told, .ref ht_text, .int vt_length, .ref ht_pages, .int vt_acts, .int vt_next, .ref ht_row, .int vt_found, .ref ht_alike, .ref ht_table, .ref ht_keys, .ref ht_own, .long vt_seed, .ref ht_isKept, .ref ht_kept])), (ht_drops, .inl (cI, 4, .inl vt_drops)), (ht_tires, .inl (cI, 4, .inl vt_tires)), (ht_now, .inl (cI, 13, .inl vt_now)), (ht_pages, .inl (cI, 4, .inl vt_pages)), (ht_own, .inl (cI, 4, .inl vt_own))])) (q_X6_tells dC dI cI cJ cZ ht ht_drops ht_tires ht_now ht_told ht_text ht_pages ht_row ht_alike ht_table ht_keys ht_own ht_isKept ht_kept vt_clerks vt_length vt_acts vt_next vt_found vt_seed vt_drops vt_tires vt_now R (va_A [(ht, .inr (5, [.int vt_clerks, .ref ht_drops, .ref ht_tires, .ref ht_now, .ref ht_told, .ref ht_text, .int vt_length, .ref ht_pages, .int vt_acts, .int vt_next, .ref ht_row, .int vt_found, .ref ht_alike, .ref ht_table, .ref ht_keys, .ref ht_own, .long vt_seed, .ref ht_isKept, .ref ht_kept])), (ht_drops, .inl (cI, 4, .inl vt_drops)), (ht_tires, .inl (cI, 4, .inl vt_tires)), (ht_now, .inl (cI, 13, .inl vt_now)), (ht_pages, .inl (cI, 4, .inl vt_pages)), (ht_own, .inl (cI, 4, .inl vt_own))] sz)) 0 0 (va_A [(ht, .inr (5, [.int vt_clerks, .ref ht_drops, .ref ht_tires, .ref ht_now, .ref ht_told, .ref ht_text, .int vt_length, .ref ht_pages, .int vt_acts, .int vt_next, .ref ht_row, .int vt_found, .ref ht_alike, .ref ht_table, .ref ht_keys, .ref ht_own, .long vt_seed, .ref ht_isKept, .ref ht_kept])), (ht_drops, .inl (cI, 4, .inl vt_drops)), (ht_tires, .inl (cI, 4, .inl vt_tires)), (ht_now, .inl (cI, 13, .inl vt_now)), (ht_pages, .inl (cI, 4, .inl vt_pages)), (ht_own, .inl (cI, 4, .inl vt_own))] sz) := by
  refine Met.ofW (cc := cX6_tells) (maxL := 7) (ret := (some .boolean)) (by decide) rfl ?_
  intro p e s m args below meth c s₁ B hml hv
  obtain ⟨rfl, hsz, hP, hK, hD0⟩ := hv
  have hx := B.exec
  have hb := B.bytes
  have hr := B.returns
  have hts := atoms_spec (ws := wsX6_tells) B.pre
  have hown : s.vm.findClass RX6 = some m.cls := findClass_of_methodNamed B.named
  have hlocks := B.notSynchronized
  clear B
  subst hsz
  have hw0 := hts (.fieldLink RX6 16 "ShorthandCourtModel" "now" "[I") (by decide +kernel)
  have hw1 := hts (.fieldLink RX6 79 "ShorthandCourtModel" "clerks" "I") (by decide +kernel)
  have hw2 := hts (.fieldLink RX6 25 "ShorthandCourtModel" "pages" "[I") (by decide +kernel)
  have hw3 := hts (.fieldLink RX6 40 "ShorthandCourtModel" "own" "[I") (by decide +kernel)
  have hinX6 : ∀ w ∈ u_ws RX6 TX6 19, w ∈ wsX6_tells := by decide +kernel
  have hD := hD0.self (sz := s.heap.size)
  clear hD0
  generalize hAe : va_A [(ht, .inr (5, [.int vt_clerks, .ref ht_drops, .ref ht_tires, .ref ht_now, .ref ht_told, .ref ht_text, .int vt_length, .ref ht_pages, .int vt_acts, .int vt_next, .ref ht_row, .int vt_found, .ref ht_alike, .ref ht_table, .ref ht_keys, .ref ht_own, .long vt_seed, .ref ht_isKept, .ref ht_kept])), (ht_drops, .inl (cI, 4, .inl vt_drops)), (ht_tires, .inl (cI, 4, .inl vt_tires)), (ht_now, .inl (cI, 13, .inl vt_now)), (ht_pages, .inl (cI, 4, .inl vt_pages)), (ht_own, .inl (cI, 4, .inl vt_own))] s.heap.size = A at hD ⊢
  have hA : ∀ q : Nat, s.heap.size ≤ q → A q := fun q h => by rw [← hAe]; exact Or.inr h
  clear hAe
  have hS : va_S A s.heap s.heap [] := va_S.rf
  have hl := lv_entry ([.ref ht, .int a1]) (n := 7) (Nat.le_of_ble_eq_true rfl)
  rw [lg_entry_eq]
  generalize (lg_sl ([.ref ht, .int a1]) ++ List.replicate (7 - (lg_sl ([.ref ht, .int a1])).length) Slot.unset).toArray = ls at hl ⊢
  have hl : lv_has ls 7 [(0, .ref ht), (1, .int a1)] := hl
  unfold f_X6_tells at hf
  refine lv_aload_n hx hb dX6_tells_0 rfl (lv_at hl 0 rfl) ?_
  refine va_get (D := (dC, dI)) (ci := 5) (v := .ref ht_now) (C := RX6) (T := TX6) (N := 19) hx hb hts hinX6 hown hK hP 0 rfl rfl 3 (by decide) hw0 (fun _ h9 => h9) rfl dX6_tells_1 ?_
  refine lv_iconst (v := 0) hx hb dX6_tells_4 (by decide) ?_
  refine va_iald hx hb hK hP 3 0 rfl rfl (vp_in_iff.mpr (by decide)) dX6_tells_5 ?_
  refine W.eq (g2 := F0 m 6 ls [.int (vt_now 0)]) rfl ?_
  obtain ⟨x1, hx1, hf⟩ := dg_bind hf
  have hPc : va_P (dC, dI) vwCl [] s.heap := hP.sub [] rfl
  have hDc : va_D A [] := hD.sub [] (by decide) rfl
  have hFc := va_free (wc := []) hD hS hA [] rfl
  refine va_calli (va_runS (As := [.int (vt_now 0)]) (rest := []) ⟨hx, hb, hml, hown, hts⟩ (k_X6_wordsOf l dC dI cI cJ cZ s.heap.size (vt_now 0) N x1 hx1) (va_cwS 1 hts gX6_tells_X6_wordsOf rfl rfl rfl hd_X6_wordsOf ⟨Nat.le_of_ble_eq_true rfl, Nat.le_of_ble_eq_true rfl⟩) ⟨blind_pc, pre_pc hPc hK hDc⟩ rfl rfl hl.1 rfl (lv_room (Nat.le_of_ble_eq_true rfl)) dX6_tells_6 ⟨Nat.zero_le _, Nat.zero_le _⟩) hS (fun q _ h => hFc q h) hFc (fun r u t H1 locs eth hvm hw hB hz1 hk1 hS => ?_)
  obtain ⟨hP1, hK1, hD1⟩ := hB
  rw [eth] at hP1
  subst hw
  obtain ⟨hP, hD⟩ := va_join (wr := [(ht, .inr (5, [.int vt_clerks, .ref ht_drops, .ref ht_tires, .ref ht_now, .ref ht_told, .ref ht_text, .int vt_length, .ref ht_pages, .int vt_acts, .int vt_next, .ref ht_row, .int vt_found, .ref ht_alike, .ref ht_table, .ref ht_keys, .ref ht_own, .long vt_seed, .ref ht_isKept, .ref ht_kept])), (ht_drops, .inl (cI, 4, .inl vt_drops)), (ht_tires, .inl (cI, 4, .inl vt_tires)), (ht_now, .inl (cI, 13, .inl vt_now)), (ht_pages, .inl (cI, 4, .inl vt_pages)), (ht_own, .inl (cI, 4, .inl vt_own))]) (w1 := []) hP hD [] [0, 1, 2, 3, 4, 5] rfl rfl (by decide) (by decide) hk1 hFc hP1 hD1
  clear hP1 hK1 hD1 hPc hDc hFc hk1 hz1 hvm eth
  generalize H1 = H at hP hS ⊢
  have hP : va_P (dC, dI) vwCl [(ht, .inr (5, [.int vt_clerks, .ref ht_drops, .ref ht_tires, .ref ht_now, .ref ht_told, .ref ht_text, .int vt_length, .ref ht_pages, .int vt_acts, .int vt_next, .ref ht_row, .int vt_found, .ref ht_alike, .ref ht_table, .ref ht_keys, .ref ht_own, .long vt_seed, .ref ht_isKept, .ref ht_kept])), (ht_drops, .inl (cI, 4, .inl vt_drops)), (ht_tires, .inl (cI, 4, .inl vt_tires)), (ht_now, .inl (cI, 13, .inl vt_now)), (ht_pages, .inl (cI, 4, .inl vt_pages)), (ht_own, .inl (cI, 4, .inl vt_own))] H := hP
  have hD : va_D A [(ht, .inr (5, [.int vt_clerks, .ref ht_drops, .ref ht_tires, .ref ht_now, .ref ht_told, .ref ht_text, .int vt_length, .ref ht_pages, .int vt_acts, .int vt_next, .ref ht_row, .int vt_found, .ref ht_alike, .ref ht_table, .ref ht_keys, .ref ht_own, .long vt_seed, .ref ht_isKept, .ref ht_kept])), (ht_drops, .inl (cI, 4, .inl vt_drops)), (ht_tires, .inl (cI, 4, .inl vt_tires)), (ht_now, .inl (cI, 13, .inl vt_now)), (ht_pages, .inl (cI, 4, .inl vt_pages)), (ht_own, .inl (cI, 4, .inl vt_own))] := hD
  refine lv_istore_n (lv' := [(2, .int x1), (0, .ref ht), (1, .int a1)]) hx hb dX6_tells_9 rfl hl (by decide) rfl (fun ls hl => ?_)
  refine lv_aload_n hx hb dX6_tells_10 rfl (lv_at hl 1 rfl) ?_
  refine lv_aload_n hx hb dX6_tells_11 rfl (lv_at hl 1 rfl) ?_
  refine va_get (D := (dC, dI)) (ci := 5) (v := .ref ht_now) (C := RX6) (T := TX6) (N := 19) hx hb hts hinX6 hown hK hP 0 rfl rfl 3 (by decide) hw0 (fun _ h9 => h9) rfl dX6_tells_12 ?_
  refine lv_iconst (v := 0) hx hb dX6_tells_15 (by decide) ?_
  refine va_iald hx hb hK hP 3 0 rfl rfl (vp_in_iff.mpr (by decide)) dX6_tells_16 ?_
  refine W.eq (g2 := F0 m 17 ls [.int (vt_now 0), .ref ht]) rfl ?_
  refine lv_bipush (v := -9) hx hb dX6_tells_17 (by decide) ?_
  obtain ⟨x2, hx2, hf⟩ := dg_bind hf
  have hPc : va_P (dC, dI) vwCl [(ht, .inr (5, [.int vt_clerks, .ref ht_drops, .ref ht_tires, .ref ht_now, .ref ht_told, .ref ht_text, .int vt_length, .ref ht_pages, .int vt_acts, .int vt_next, .ref ht_row, .int vt_found, .ref ht_alike, .ref ht_table, .ref ht_keys, .ref ht_own, .long vt_seed, .ref ht_isKept, .ref ht_kept])), (ht_drops, .inl (cI, 4, .inl vt_drops)), (ht_tires, .inl (cI, 4, .inl vt_tires)), (ht_now, .inl (cI, 13, .inl vt_now)), (ht_pages, .inl (cI, 4, .inl vt_pages))] H := hP.sub [0, 1, 2, 3, 4] rfl
  have hDc : va_D A [(ht, .inr (5, [.int vt_clerks, .ref ht_drops, .ref ht_tires, .ref ht_now, .ref ht_told, .ref ht_text, .int vt_length, .ref ht_pages, .int vt_acts, .int vt_next, .ref ht_row, .int vt_found, .ref ht_alike, .ref ht_table, .ref ht_keys, .ref ht_own, .long vt_seed, .ref ht_isKept, .ref ht_kept])), (ht_drops, .inl (cI, 4, .inl vt_drops)), (ht_tires, .inl (cI, 4, .inl vt_tires)), (ht_now, .inl (cI, 13, .inl vt_now)), (ht_pages, .inl (cI, 4, .inl vt_pages))] := hD.sub [0, 1, 2, 3, 4] (by decide) rfl
  have hFc := va_free (wc := [(ht, .inr (5, [.int vt_clerks, .ref ht_drops, .ref ht_tires, .ref ht_now, .ref ht_told, .ref ht_text, .int vt_length, .ref ht_pages, .int vt_acts, .int vt_next, .ref ht_row, .int vt_found, .ref ht_alike, .ref ht_table, .ref ht_keys, .ref ht_own, .long vt_seed, .ref ht_isKept, .ref ht_kept])), (ht_drops, .inl (cI, 4, .inl vt_drops)), (ht_tires, .inl (cI, 4, .inl vt_tires)), (ht_now, .inl (cI, 13, .inl vt_now)), (ht_pages, .inl (cI, 4, .inl vt_pages))]) hD hS hA [0, 1, 2, 3, 4] rfl
  refine va_callv (va_runV (As := [.int (vt_now 0), .int (-9:Int32)]) (rest := []) ⟨hx, hb, hml, hown, hts⟩ (k_X6_layPages l dC dI cI cJ cZ H.size ht ht_drops ht_tires ht_now ht_told ht_text ht_pages ht_row ht_alike ht_table ht_keys ht_own ht_isKept ht_kept (vt_now 0) (-9:Int32) vt_clerks vt_length vt_acts vt_next vt_found vt_seed vt_drops vt_tires vt_now vt_pages N x2 hx2) (cwV 2 hts gX6_tells_X6_layPages rfl rfl rfl hd_X6_layPages ⟨Nat.le_of_ble_eq_true rfl, Nat.le_of_ble_eq_true rfl⟩) ⟨blind_pc, va_recv hK hPc (ci := 5) (q0 := 0) rfl rfl, pre_pc hPc hK hDc⟩ rfl rfl hl.1 rfl (lv_room (Nat.le_of_ble_eq_true rfl)) dX6_tells_19 ⟨Nat.zero_le _, Nat.zero_le _⟩) hS (fun q _ h => hFc q h) hFc (fun u t H1 locs eth hvm hw hB hz1 hk1 hS => ?_)
  obtain ⟨hP1, hK1, hD1⟩ := hB
  rw [eth] at hP1
  subst hw
  obtain ⟨hP, hD⟩ := va_join (wr := [(ht_own, .inl (cI, 4, .inl vt_own))]) (w1 := [(ht, .inr (5, [.int vt_clerks, .ref ht_drops, .ref ht_tires, .ref ht_now, .ref ht_told, .ref ht_text, .int vt_length, .ref ht_pages, .int vt_acts, .int vt_next, .ref ht_row, .int vt_found, .ref ht_alike, .ref ht_table, .ref ht_keys, .ref ht_own, .long vt_seed, .ref ht_isKept, .ref ht_kept])), (ht_drops, .inl (cI, 4, .inl vt_drops)), (ht_tires, .inl (cI, 4, .inl vt_tires)), (ht_now, .inl (cI, 13, .inl vt_now)), (ht_pages, .inl (cI, 4, .inl x2))]) hP hD [0, 1, 2, 3, 4] [5] rfl rfl (by decide) (by decide) hk1 hFc hP1 hD1
  clear hP1 hK1 hD1 hPc hDc hFc hk1 hz1 hvm eth
  generalize H1 = H at hP hS ⊢
  have hP : va_P (dC, dI) vwCl [(ht_own, .inl (cI, 4, .inl vt_own)), (ht, .inr (5, [.int vt_clerks, .ref ht_drops, .ref ht_tires, .ref ht_now, .ref ht_told, .ref ht_text, .int vt_length, .ref ht_pages, .int vt_acts, .int vt_next, .ref ht_row, .int vt_found, .ref ht_alike, .ref ht_table, .ref ht_keys, .ref ht_own, .long vt_seed, .ref ht_isKept, .ref ht_kept])), (ht_drops, .inl (cI, 4, .inl vt_drops)), (ht_tires, .inl (cI, 4, .inl vt_tires)), (ht_now, .inl (cI, 13, .inl vt_now)), (ht_pages, .inl (cI, 4, .inl x2))] H := hP
  have hD : va_D A [(ht_own, .inl (cI, 4, .inl vt_own)), (ht, .inr (5, [.int vt_clerks, .ref ht_drops, .ref ht_tires, .ref ht_now, .ref ht_told, .ref ht_text, .int vt_length, .ref ht_pages, .int vt_acts, .int vt_next, .ref ht_row, .int vt_found, .ref ht_alike, .ref ht_table, .ref ht_keys, .ref ht_own, .long vt_seed, .ref ht_isKept, .ref ht_kept])), (ht_drops, .inl (cI, 4, .inl vt_drops)), (ht_tires, .inl (cI, 4, .inl vt_tires)), (ht_now, .inl (cI, 13, .inl vt_now)), (ht_pages, .inl (cI, 4, .inl x2))] := hD
  refine lv_iconst (v := 0) hx hb dX6_tells_22 (by decide) ?_
  refine lv_istore_n (lv' := [(3, .int (0:Int32)), (2, .int x1), (0, .ref ht), (1, .int a1)]) hx hb dX6_tells_23 rfl hl (by decide) rfl (fun ls hl => ?_)
  have ex24 : ∀ (z3_24 : Int32) (zvt_own_24 : (Nat → Int32)) (H : Heap) (locs : List Loc) (ls : Array Slot), va_P (dC, dI) vwCl [(ht_own, .inl (cI, 4, .inl zvt_own_24)), (ht, .inr (5, [.int vt_clerks, .ref ht_drops, .ref ht_tires, .ref ht_now, .ref ht_told, .ref ht_text, .int vt_length, .ref ht_pages, .int vt_acts, .int vt_next, .ref ht_row, .int vt_found, .ref ht_alike, .ref ht_table, .ref ht_keys, .ref ht_own, .long vt_seed, .ref ht_isKept, .ref ht_kept])), (ht_drops, .inl (cI, 4, .inl vt_drops)), (ht_tires, .inl (cI, 4, .inl vt_tires)), (ht_now, .inl (cI, 13, .inl vt_now)), (ht_pages, .inl (cI, 4, .inl x2))] H → va_D A [(ht_own, .inl (cI, 4, .inl zvt_own_24)), (ht, .inr (5, [.int vt_clerks, .ref ht_drops, .ref ht_tires, .ref ht_now, .ref ht_told, .ref ht_text, .int vt_length, .ref ht_pages, .int vt_acts, .int vt_next, .ref ht_row, .int vt_found, .ref ht_alike, .ref ht_table, .ref ht_keys, .ref ht_own, .long vt_seed, .ref ht_isKept, .ref ht_kept])), (ht_drops, .inl (cI, 4, .inl vt_drops)), (ht_tires, .inl (cI, 4, .inl vt_tires)), (ht_now, .inl (cI, 13, .inl vt_now)), (ht_pages, .inl (cI, 4, .inl x2))] → va_S A s.heap H locs → lv_has ls 7 [(3, .int z3_24), (2, .int x1), (0, .ref ht), (1, .int a1)] → (f_X6_tells_52 N a1 vt_clerks vt_drops vt_tires vt_now x1 zvt_own_24 (fun z3_52 z4_52 zvt_pages_52 => gZ z3_52 (some (z3_52, (zvt_pages_52, zvt_own_24)))) N (1:Int32) (0:Int32) x2) = some R → W p l e (rm_X6_tells) s m ([.ref ht, .int a1] : List Value).toArray below meth c H locs 0 0 (MQ below (q_X6_tells dC dI cI cJ cZ ht ht_drops ht_tires ht_now ht_told ht_text ht_pages ht_row ht_alike ht_table ht_keys ht_own ht_isKept ht_kept vt_clerks vt_length vt_acts vt_next vt_found vt_seed vt_drops vt_tires vt_now R A) ([.ref ht, .int a1] : List Value).toArray s 0 0 A) (F0 m 47 ls []) := by
    intro z3_24 zvt_own_24 H locs ls hP hD hS hl hf
    refine lv_iconst (v := 1) hx hb dX6_tells_47 (by decide) ?_
    refine lv_istore_n (lv' := [(3, .int (1:Int32)), (2, .int x1), (0, .ref ht), (1, .int a1)]) hx hb dX6_tells_48 rfl hl (by decide) rfl (fun ls hl => ?_)
    refine lv_iconst (v := 0) hx hb dX6_tells_49 (by decide) ?_
    refine lv_istore (lv' := [(4, .int (0:Int32)), (3, .int (1:Int32)), (2, .int x1), (0, .ref ht), (1, .int a1)]) hx hb dX6_tells_50 hl (by decide) rfl (fun ls hl => ?_)
    have ex52 : ∀ (z3_52 : Int32) (z4_52 : Int32) (zvt_pages_52 : (Nat → Int32)) (H : Heap) (locs : List Loc) (ls : Array Slot), va_P (dC, dI) vwCl [(ht_own, .inl (cI, 4, .inl zvt_own_24)), (ht, .inr (5, [.int vt_clerks, .ref ht_drops, .ref ht_tires, .ref ht_now, .ref ht_told, .ref ht_text, .int vt_length, .ref ht_pages, .int vt_acts, .int vt_next, .ref ht_row, .int vt_found, .ref ht_alike, .ref ht_table, .ref ht_keys, .ref ht_own, .long vt_seed, .ref ht_isKept, .ref ht_kept])), (ht_drops, .inl (cI, 4, .inl vt_drops)), (ht_tires, .inl (cI, 4, .inl vt_tires)), (ht_now, .inl (cI, 13, .inl vt_now)), (ht_pages, .inl (cI, 4, .inl zvt_pages_52))] H → va_D A [(ht_own, .inl (cI, 4, .inl zvt_own_24)), (ht, .inr (5, [.int vt_clerks, .ref ht_drops, .ref ht_tires, .ref ht_now, .ref ht_told, .ref ht_text, .int vt_length, .ref ht_pages, .int vt_acts, .int vt_next, .ref ht_row, .int vt_found, .ref ht_alike, .ref ht_table, .ref ht_keys, .ref ht_own, .long vt_seed, .ref ht_isKept, .ref ht_kept])), (ht_drops, .inl (cI, 4, .inl vt_drops)), (ht_tires, .inl (cI, 4, .inl vt_tires)), (ht_now, .inl (cI, 13, .inl vt_now)), (ht_pages, .inl (cI, 4, .inl zvt_pages_52))] → va_S A s.heap H locs → lv_has ls 7 [(4, .int z4_52), (3, .int z3_52), (2, .int x1), (0, .ref ht), (1, .int a1)] → (gZ z3_52 (some (z3_52, (zvt_pages_52, zvt_own_24)))) = some R → W p l e (rm_X6_tells) s m ([.ref ht, .int a1] : List Value).toArray below meth c H locs 0 0 (MQ below (q_X6_tells dC dI cI cJ cZ ht ht_drops ht_tires ht_now ht_told ht_text ht_pages ht_row ht_alike ht_table ht_keys ht_own ht_isKept ht_kept vt_clerks vt_length vt_acts vt_next vt_found vt_seed vt_drops vt_tires vt_now R A) ([.ref ht, .int a1] : List Value).toArray s 0 0 A) (F0 m 176 ls []) := by
      intro z3_52 z4_52 zvt_pages_52 H locs ls hP hD hS hl hf
      refine lv_iload_n hx hb dX6_tells_176 rfl (lv_at hl 1 rfl) ?_
      obtain ⟨hz3, hf⟩ := dg_z hf
      have he := Option.some.inj hf
      have hP9 := (hP.sub (ws' := [(ht, .inr (5, [.int vt_clerks, .ref ht_drops, .ref ht_tires, .ref ht_now, .ref ht_told, .ref ht_text, .int vt_length, .ref ht_pages, .int vt_acts, .int vt_next, .ref ht_row, .int vt_found, .ref ht_alike, .ref ht_table, .ref ht_keys, .ref ht_own, .long vt_seed, .ref ht_isKept, .ref ht_kept])), (ht_drops, .inl (cI, 4, .inl vt_drops)), (ht_tires, .inl (cI, 4, .inl vt_tires)), (ht_now, .inl (cI, 13, .inl vt_now)), (ht_pages, .inl (cI, 4, .inl zvt_pages_52)), (ht_own, .inl (cI, 4, .inl zvt_own_24))]) [1, 2, 3, 4, 5, 0] rfl)
      have hD9 := (hD.sub (ws' := [(ht, .inr (5, [.int vt_clerks, .ref ht_drops, .ref ht_tires, .ref ht_now, .ref ht_told, .ref ht_text, .int vt_length, .ref ht_pages, .int vt_acts, .int vt_next, .ref ht_row, .int vt_found, .ref ht_alike, .ref ht_table, .ref ht_keys, .ref ht_own, .long vt_seed, .ref ht_isKept, .ref ht_kept])), (ht_drops, .inl (cI, 4, .inl vt_drops)), (ht_tires, .inl (cI, 4, .inl vt_tires)), (ht_now, .inl (cI, 13, .inl vt_now)), (ht_pages, .inl (cI, 4, .inl zvt_pages_52)), (ht_own, .inl (cI, 4, .inl zvt_own_24))]) [1, 2, 3, 4, 5, 0] (by decide) rfl)
      exact W.zret (v := z3_52) (ty := .boolean) hx hb hr hz3 (fun t eth hW => ⟨⟨z3_52, (zvt_pages_52, zvt_own_24), rfl, ⟨(congrArg Prod.fst he).symm, (congrArg Prod.snd he).symm⟩, by rw [eth]; exact hP9, va_K.moved hW.alike hK, hD9⟩, hS.F eth⟩) hS.2.2 dX6_tells_177
    have lp52 : ∀ (n52 : Nat) (y3_52 : Int32) (y4_52 : Int32) (yvt_pages_52 : (Nat → Int32)) (H : Heap) (locs : List Loc) (ls : Array Slot), va_P (dC, dI) vwCl [(ht_own, .inl (cI, 4, .inl zvt_own_24)), (ht, .inr (5, [.int vt_clerks, .ref ht_drops, .ref ht_tires, .ref ht_now, .ref ht_told, .ref ht_text, .int vt_length, .ref ht_pages, .int vt_acts, .int vt_next, .ref ht_row, .int vt_found, .ref ht_alike, .ref ht_table, .ref ht_keys, .ref ht_own, .long vt_seed, .ref ht_isKept, .ref ht_kept])), (ht_drops, .inl (cI, 4, .inl vt_drops)), (ht_tires, .inl (cI, 4, .inl vt_tires)), (ht_now, .inl (cI, 13, .inl vt_now)), (ht_pages, .inl (cI, 4, .inl yvt_pages_52))] H → va_D A [(ht_own, .inl (cI, 4, .inl zvt_own_24)), (ht, .inr (5, [.int vt_clerks, .ref ht_drops, .ref ht_tires, .ref ht_now, .ref ht_told, .ref ht_text, .int vt_length, .ref ht_pages, .int vt_acts, .int vt_next, .ref ht_row, .int vt_found, .ref ht_alike, .ref ht_table, .ref ht_keys, .ref ht_own, .long vt_seed, .ref ht_isKept, .ref ht_kept])), (ht_drops, .inl (cI, 4, .inl vt_drops)), (ht_tires, .inl (cI, 4, .inl vt_tires)), (ht_now, .inl (cI, 13, .inl vt_now)), (ht_pages, .inl (cI, 4, .inl yvt_pages_52))] → va_S A s.heap H locs → lv_has ls 7 [(4, .int y4_52), (3, .int y3_52), (2, .int x1), (0, .ref ht), (1, .int a1)] → f_X6_tells_52 N a1 vt_clerks vt_drops vt_tires vt_now x1 zvt_own_24 (fun z3_52 z4_52 zvt_pages_52 => gZ z3_52 (some (z3_52, (zvt_pages_52, zvt_own_24)))) n52 y3_52 y4_52 yvt_pages_52 = some R → W p l e (rm_X6_tells) s m ([.ref ht, .int a1] : List Value).toArray below meth c H locs 0 0 (MQ below (q_X6_tells dC dI cI cJ cZ ht ht_drops ht_tires ht_now ht_told ht_text ht_pages ht_row ht_alike ht_table ht_keys ht_own ht_isKept ht_kept vt_clerks vt_length vt_acts vt_next vt_found vt_seed vt_drops vt_tires vt_now R A) ([.ref ht, .int a1] : List Value).toArray s 0 0 A) (F0 m 52 ls []) := by
      intro n52
      induction n52 with
      | zero => intro y3_52 y4_52 yvt_pages_52 H locs ls hP hD hS hl hf; rw [f_X6_tells_52] at hf; cases hf
      | succ n52 ih52 =>
        intro y3_52 y4_52 yvt_pages_52 H locs ls hP hD hS hl hf
        rw [f_X6_tells_52] at hf
        refine lv_iload hx hb dX6_tells_52 (lv_at hl 0 rfl) ?_
        refine lv_iload_n hx hb dX6_tells_54 rfl (lv_at hl 2 rfl) ?_
        obtain ⟨x4, hx4, hf⟩ := dg_bind hf
        have hPc : va_P (dC, dI) vwCl [] H := hP.sub [] rfl
        have hDc : va_D A [] := hD.sub [] (by decide) rfl
        have hFc := va_free (wc := []) hD hS hA [] rfl
        refine va_calli (va_runS (As := [.int x1]) (rest := [.int y4_52]) ⟨hx, hb, hml, hown, hts⟩ (k_X6_fourTo l dC dI cI cJ cZ H.size x1 N x4 hx4) (va_cwS 1 hts gX6_tells_X6_fourTo rfl rfl rfl hd_X6_fourTo ⟨Nat.le_of_ble_eq_true rfl, Nat.le_of_ble_eq_true rfl⟩) ⟨blind_pc, pre_pc hPc hK hDc⟩ rfl rfl hl.1 rfl (lv_room (Nat.le_of_ble_eq_true rfl)) dX6_tells_55 ⟨Nat.zero_le _, Nat.zero_le _⟩) hS (fun q _ h => hFc q h) hFc (fun r u t H1 locs eth hvm hw hB hz1 hk1 hS => ?_)
        obtain ⟨hP1, hK1, hD1⟩ := hB
        rw [eth] at hP1
        subst hw
        obtain ⟨hP, hD⟩ := va_join (wr := [(ht_own, .inl (cI, 4, .inl zvt_own_24)), (ht, .inr (5, [.int vt_clerks, .ref ht_drops, .ref ht_tires, .ref ht_now, .ref ht_told, .ref ht_text, .int vt_length, .ref ht_pages, .int vt_acts, .int vt_next, .ref ht_row, .int vt_found, .ref ht_alike, .ref ht_table, .ref ht_keys, .ref ht_own, .long vt_seed, .ref ht_isKept, .ref ht_kept])), (ht_drops, .inl (cI, 4, .inl vt_drops)), (ht_tires, .inl (cI, 4, .inl vt_tires)), (ht_now, .inl (cI, 13, .inl vt_now)), (ht_pages, .inl (cI, 4, .inl yvt_pages_52))]) (w1 := []) hP hD [] [0, 1, 2, 3, 4, 5] rfl rfl (by decide) (by decide) hk1 hFc hP1 hD1
        clear hP1 hK1 hD1 hPc hDc hFc hk1 hz1 hvm eth
        generalize H1 = H at hP hS ⊢
        have hP : va_P (dC, dI) vwCl [(ht_own, .inl (cI, 4, .inl zvt_own_24)), (ht, .inr (5, [.int vt_clerks, .ref ht_drops, .ref ht_tires, .ref ht_now, .ref ht_told, .ref ht_text, .int vt_length, .ref ht_pages, .int vt_acts, .int vt_next, .ref ht_row, .int vt_found, .ref ht_alike, .ref ht_table, .ref ht_keys, .ref ht_own, .long vt_seed, .ref ht_isKept, .ref ht_kept])), (ht_drops, .inl (cI, 4, .inl vt_drops)), (ht_tires, .inl (cI, 4, .inl vt_tires)), (ht_now, .inl (cI, 13, .inl vt_now)), (ht_pages, .inl (cI, 4, .inl yvt_pages_52))] H := hP
        have hD : va_D A [(ht_own, .inl (cI, 4, .inl zvt_own_24)), (ht, .inr (5, [.int vt_clerks, .ref ht_drops, .ref ht_tires, .ref ht_now, .ref ht_told, .ref ht_text, .int vt_length, .ref ht_pages, .int vt_acts, .int vt_next, .ref ht_row, .int vt_found, .ref ht_alike, .ref ht_table, .ref ht_keys, .ref ht_own, .long vt_seed, .ref ht_isKept, .ref ht_kept])), (ht_drops, .inl (cI, 4, .inl vt_drops)), (ht_tires, .inl (cI, 4, .inl vt_tires)), (ht_now, .inl (cI, 13, .inl vt_now)), (ht_pages, .inl (cI, 4, .inl yvt_pages_52))] := hD
        refine lv_icmp_ge (tgt := 176) hx hb dX6_tells_58 (by decide) (fun c5 => ?_) (fun c5 => ?_)
        · replace hf := dg_t c5 hf
          exact ex52 y3_52 y4_52 yvt_pages_52 _ _ _ hP hD hS (lv_sub hl [0, 1, 2, 3, 4] rfl) hf
        · replace hf := dg_f c5 hf
          refine lv_iload_n hx hb dX6_tells_61 rfl (lv_at hl 1 rfl) ?_
          refine lv_if_eq (tgt := 176) hx hb dX6_tells_62 (by decide) (fun c6 => ?_) (fun c6 => ?_)
          · replace hf := dg_t c6 hf
            exact ex52 y3_52 y4_52 yvt_pages_52 _ _ _ hP hD hS (lv_sub hl [0, 1, 2, 3, 4] rfl) hf
          · replace hf := dg_f c6 hf
            refine lv_aload_n hx hb dX6_tells_65 rfl (lv_at hl 3 rfl) ?_
            refine lv_iload_n hx hb dX6_tells_66 rfl (lv_at hl 2 rfl) ?_
            refine lv_sipush (v := 4096) hx hb dX6_tells_67 (by decide) ?_
            refine lv_imul hx hb dX6_tells_70 ?_
            refine lv_iload hx hb dX6_tells_71 (lv_at hl 0 rfl) ?_
            refine lv_iadd hx hb dX6_tells_73 ?_
            refine lv_bipush (v := -9) hx hb dX6_tells_74 (by decide) ?_
            obtain ⟨x7, hx7, hf⟩ := dg_bind hf
            have hPc : va_P (dC, dI) vwCl [(ht, .inr (5, [.int vt_clerks, .ref ht_drops, .ref ht_tires, .ref ht_now, .ref ht_told, .ref ht_text, .int vt_length, .ref ht_pages, .int vt_acts, .int vt_next, .ref ht_row, .int vt_found, .ref ht_alike, .ref ht_table, .ref ht_keys, .ref ht_own, .long vt_seed, .ref ht_isKept, .ref ht_kept])), (ht_drops, .inl (cI, 4, .inl vt_drops)), (ht_tires, .inl (cI, 4, .inl vt_tires)), (ht_now, .inl (cI, 13, .inl vt_now)), (ht_pages, .inl (cI, 4, .inl yvt_pages_52))] H := hP.sub [1, 2, 3, 4, 5] rfl
            have hDc : va_D A [(ht, .inr (5, [.int vt_clerks, .ref ht_drops, .ref ht_tires, .ref ht_now, .ref ht_told, .ref ht_text, .int vt_length, .ref ht_pages, .int vt_acts, .int vt_next, .ref ht_row, .int vt_found, .ref ht_alike, .ref ht_table, .ref ht_keys, .ref ht_own, .long vt_seed, .ref ht_isKept, .ref ht_kept])), (ht_drops, .inl (cI, 4, .inl vt_drops)), (ht_tires, .inl (cI, 4, .inl vt_tires)), (ht_now, .inl (cI, 13, .inl vt_now)), (ht_pages, .inl (cI, 4, .inl yvt_pages_52))] := hD.sub [1, 2, 3, 4, 5] (by decide) rfl
            have hFc := va_free (wc := [(ht, .inr (5, [.int vt_clerks, .ref ht_drops, .ref ht_tires, .ref ht_now, .ref ht_told, .ref ht_text, .int vt_length, .ref ht_pages, .int vt_acts, .int vt_next, .ref ht_row, .int vt_found, .ref ht_alike, .ref ht_table, .ref ht_keys, .ref ht_own, .long vt_seed, .ref ht_isKept, .ref ht_kept])), (ht_drops, .inl (cI, 4, .inl vt_drops)), (ht_tires, .inl (cI, 4, .inl vt_tires)), (ht_now, .inl (cI, 13, .inl vt_now)), (ht_pages, .inl (cI, 4, .inl yvt_pages_52))]) hD hS hA [1, 2, 3, 4, 5] rfl
            refine va_callv (va_runV (As := [.int ((x1 * (4096:Int32)) + y4_52), .int (-9:Int32)]) (rest := []) ⟨hx, hb, hml, hown, hts⟩ (k_X6_layPages l dC dI cI cJ cZ H.size ht ht_drops ht_tires ht_now ht_told ht_text ht_pages ht_row ht_alike ht_table ht_keys ht_own ht_isKept ht_kept ((x1 * (4096:Int32)) + y4_52) (-9:Int32) vt_clerks vt_length vt_acts vt_next vt_found vt_seed vt_drops vt_tires vt_now yvt_pages_52 N x7 hx7) (cwV 2 hts gX6_tells_X6_layPages rfl rfl rfl hd_X6_layPages ⟨Nat.le_of_ble_eq_true rfl, Nat.le_of_ble_eq_true rfl⟩) ⟨blind_pc, va_recv hK hPc (ci := 5) (q0 := 0) rfl rfl, pre_pc hPc hK hDc⟩ rfl rfl hl.1 rfl (lv_room (Nat.le_of_ble_eq_true rfl)) dX6_tells_76 ⟨Nat.zero_le _, Nat.zero_le _⟩) hS (fun q _ h => hFc q h) hFc (fun u t H1 locs eth hvm hw hB hz1 hk1 hS => ?_)
            obtain ⟨hP1, hK1, hD1⟩ := hB
            rw [eth] at hP1
            subst hw
            obtain ⟨hP, hD⟩ := va_join (wr := [(ht_own, .inl (cI, 4, .inl zvt_own_24))]) (w1 := [(ht, .inr (5, [.int vt_clerks, .ref ht_drops, .ref ht_tires, .ref ht_now, .ref ht_told, .ref ht_text, .int vt_length, .ref ht_pages, .int vt_acts, .int vt_next, .ref ht_row, .int vt_found, .ref ht_alike, .ref ht_table, .ref ht_keys, .ref ht_own, .long vt_seed, .ref ht_isKept, .ref ht_kept])), (ht_drops, .inl (cI, 4, .inl vt_drops)), (ht_tires, .inl (cI, 4, .inl vt_tires)), (ht_now, .inl (cI, 13, .inl vt_now)), (ht_pages, .inl (cI, 4, .inl x7))]) hP hD [1, 2, 3, 4, 5] [0] rfl rfl (by decide) (by decide) hk1 hFc hP1 hD1
            clear hP1 hK1 hD1 hPc hDc hFc hk1 hz1 hvm eth
            generalize H1 = H at hP hS ⊢
            have hP : va_P (dC, dI) vwCl [(ht_own, .inl (cI, 4, .inl zvt_own_24)), (ht, .inr (5, [.int vt_clerks, .ref ht_drops, .ref ht_tires, .ref ht_now, .ref ht_told, .ref ht_text, .int vt_length, .ref ht_pages, .int vt_acts, .int vt_next, .ref ht_row, .int vt_found, .ref ht_alike, .ref ht_table, .ref ht_keys, .ref ht_own, .long vt_seed, .ref ht_isKept, .ref ht_kept])), (ht_drops, .inl (cI, 4, .inl vt_drops)), (ht_tires, .inl (cI, 4, .inl vt_tires)), (ht_now, .inl (cI, 13, .inl vt_now)), (ht_pages, .inl (cI, 4, .inl x7))] H := hP
            have hD : va_D A [(ht_own, .inl (cI, 4, .inl zvt_own_24)), (ht, .inr (5, [.int vt_clerks, .ref ht_drops, .ref ht_tires, .ref ht_now, .ref ht_told, .ref ht_text, .int vt_length, .ref ht_pages, .int vt_acts, .int vt_next, .ref ht_row, .int vt_found, .ref ht_alike, .ref ht_table, .ref ht_keys, .ref ht_own, .long vt_seed, .ref ht_isKept, .ref ht_kept])), (ht_drops, .inl (cI, 4, .inl vt_drops)), (ht_tires, .inl (cI, 4, .inl vt_tires)), (ht_now, .inl (cI, 13, .inl vt_now)), (ht_pages, .inl (cI, 4, .inl x7))] := hD
            refine lv_iload_n hx hb dX6_tells_79 rfl (lv_at hl 2 rfl) ?_
            refine lv_sipush (v := 4096) hx hb dX6_tells_80 (by decide) ?_
            refine lv_imul hx hb dX6_tells_83 ?_
            refine lv_iload hx hb dX6_tells_84 (lv_at hl 0 rfl) ?_
            refine lv_iadd hx hb dX6_tells_86 ?_
            refine lv_aload_n hx hb dX6_tells_87 rfl (lv_at hl 3 rfl) ?_
            refine va_get (D := (dC, dI)) (ci := 5) (v := .ref ht_now) (C := RX6) (T := TX6) (N := 19) hx hb hts hinX6 hown hK hP 1 rfl rfl 3 (by decide) hw0 (fun _ h9 => h9) rfl dX6_tells_88 ?_
            refine lv_iconst (v := 0) hx hb dX6_tells_91 (by decide) ?_
            refine va_iald hx hb hK hP 4 0 rfl rfl (vp_in_iff.mpr (by decide)) dX6_tells_92 ?_
            refine W.eq (g2 := F0 m 93 ls [.int (vt_now 0), .int ((x1 * (4096:Int32)) + y4_52)]) rfl ?_
            refine lv_icmp_eq (tgt := 100) hx hb dX6_tells_93 (by decide) (fun c8 => ?_) (fun c8 => ?_)
            · replace hf := dg_t c8 hf
              refine lv_iconst (v := 0) hx hb dX6_tells_100 (by decide) ?_
              refine lv_istore (lv' := [(5, .int (0:Int32)), (4, .int y4_52), (3, .int y3_52), (2, .int x1), (0, .ref ht), (1, .int a1)]) hx hb dX6_tells_101 hl (by decide) rfl (fun ls hl => ?_)
              refine lv_iconst (v := 0) hx hb dX6_tells_103 (by decide) ?_
              refine lv_istore (lv' := [(6, .int (0:Int32)), (5, .int (0:Int32)), (4, .int y4_52), (3, .int y3_52), (2, .int x1), (0, .ref ht), (1, .int a1)]) hx hb dX6_tells_104 hl (by decide) rfl (fun ls hl => ?_)
              have ex106 : ∀ (z5_106 : Int32) (z6_106 : Int32) (H : Heap) (locs : List Loc) (ls : Array Slot), va_P (dC, dI) vwCl [(ht_own, .inl (cI, 4, .inl zvt_own_24)), (ht, .inr (5, [.int vt_clerks, .ref ht_drops, .ref ht_tires, .ref ht_now, .ref ht_told, .ref ht_text, .int vt_length, .ref ht_pages, .int vt_acts, .int vt_next, .ref ht_row, .int vt_found, .ref ht_alike, .ref ht_table, .ref ht_keys, .ref ht_own, .long vt_seed, .ref ht_isKept, .ref ht_kept])), (ht_drops, .inl (cI, 4, .inl vt_drops)), (ht_tires, .inl (cI, 4, .inl vt_tires)), (ht_now, .inl (cI, 13, .inl vt_now)), (ht_pages, .inl (cI, 4, .inl x7))] H → va_D A [(ht_own, .inl (cI, 4, .inl zvt_own_24)), (ht, .inr (5, [.int vt_clerks, .ref ht_drops, .ref ht_tires, .ref ht_now, .ref ht_told, .ref ht_text, .int vt_length, .ref ht_pages, .int vt_acts, .int vt_next, .ref ht_row, .int vt_found, .ref ht_alike, .ref ht_table, .ref ht_keys, .ref ht_own, .long vt_seed, .ref ht_isKept, .ref ht_kept])), (ht_drops, .inl (cI, 4, .inl vt_drops)), (ht_tires, .inl (cI, 4, .inl vt_tires)), (ht_now, .inl (cI, 13, .inl vt_now)), (ht_pages, .inl (cI, 4, .inl x7))] → va_S A s.heap H locs → lv_has ls 7 [(6, .int z6_106), (5, .int z5_106), (4, .int y4_52), (3, .int y3_52), (2, .int x1), (0, .ref ht), (1, .int a1)] → (if z5_106 = (0:Int32) then f_X6_tells_52 N a1 vt_clerks vt_drops vt_tires vt_now x1 zvt_own_24 (fun z3_52 z4_52 zvt_pages_52 => gZ z3_52 (some (z3_52, (zvt_pages_52, zvt_own_24)))) n52 (1:Int32) (y4_52 + (1:Int32)) x7 else f_X6_tells_52 N a1 vt_clerks vt_drops vt_tires vt_now x1 zvt_own_24 (fun z3_52 z4_52 zvt_pages_52 => gZ z3_52 (some (z3_52, (zvt_pages_52, zvt_own_24)))) n52 (0:Int32) (y4_52 + (1:Int32)) x7) = some R → W p l e (rm_X6_tells) s m ([.ref ht, .int a1] : List Value).toArray below meth c H locs 0 0 (MQ below (q_X6_tells dC dI cI cJ cZ ht ht_drops ht_tires ht_now ht_told ht_text ht_pages ht_row ht_alike ht_table ht_keys ht_own ht_isKept ht_kept vt_clerks vt_length vt_acts vt_next vt_found vt_seed vt_drops vt_tires vt_now R A) ([.ref ht, .int a1] : List Value).toArray s 0 0 A) (F0 m 159 ls []) := by
                intro z5_106 z6_106 H locs ls hP hD hS hl hf
                refine lv_iload hx hb dX6_tells_159 (lv_at hl 1 rfl) ?_
                refine lv_if_ne (tgt := 168) hx hb dX6_tells_161 (by decide) (fun c9 => ?_) (fun c9 => ?_)
                · replace hf := dg_f c9 hf
                  refine lv_iconst (v := 0) hx hb dX6_tells_168 (by decide) ?_
                  refine lv_istore_n (lv' := [(3, .int (0:Int32)), (6, .int z6_106), (5, .int z5_106), (4, .int y4_52), (2, .int x1), (0, .ref ht), (1, .int a1)]) hx hb dX6_tells_169 rfl hl (by decide) rfl (fun ls hl => ?_)
                  refine lv_iinc (v := (y4_52 + (1:Int32))) (lv' := [(4, .int (y4_52 + (1:Int32))), (3, .int (0:Int32)), (6, .int z6_106), (5, .int z5_106), (2, .int x1), (0, .ref ht), (1, .int a1)]) hx hb dX6_tells_170 hl (k := 3) rfl (by first | rfl | decide) (by decide) rfl (fun ls hl => ?_)
                  refine lv_goto (tgt := 52) hx hb dX6_tells_173 (by decide) ?_
                  exact ih52 (0:Int32) (y4_52 + (1:Int32)) x7 _ _ _ hP hD hS (lv_sub hl [0, 1, 4, 5, 6] rfl) hf
                · replace hf := dg_t c9 hf
                  refine lv_iconst (v := 1) hx hb dX6_tells_164 (by decide) ?_
                  refine lv_goto (tgt := 169) hx hb dX6_tells_165 (by decide) ?_
                  refine lv_istore_n (lv' := [(3, .int (1:Int32)), (6, .int z6_106), (5, .int z5_106), (4, .int y4_52), (2, .int x1), (0, .ref ht), (1, .int a1)]) hx hb dX6_tells_169 rfl hl (by decide) rfl (fun ls hl => ?_)
                  refine lv_iinc (v := (y4_52 + (1:Int32))) (lv' := [(4, .int (y4_52 + (1:Int32))), (3, .int (1:Int32)), (6, .int z6_106), (5, .int z5_106), (2, .int x1), (0, .ref ht), (1, .int a1)]) hx hb dX6_tells_170 hl (k := 3) rfl (by first | rfl | decide) (by decide) rfl (fun ls hl => ?_)
                  refine lv_goto (tgt := 52) hx hb dX6_tells_173 (by decide) ?_
                  exact ih52 (1:Int32) (y4_52 + (1:Int32)) x7 _ _ _ hP hD hS (lv_sub hl [0, 1, 4, 5, 6] rfl) hf
              have lp106 : ∀ (n106 : Nat) (y5_106 : Int32) (y6_106 : Int32) (H : Heap) (locs : List Loc) (ls : Array Slot), va_P (dC, dI) vwCl [(ht_own, .inl (cI, 4, .inl zvt_own_24)), (ht, .inr (5, [.int vt_clerks, .ref ht_drops, .ref ht_tires, .ref ht_now, .ref ht_told, .ref ht_text, .int vt_length, .ref ht_pages, .int vt_acts, .int vt_next, .ref ht_row, .int vt_found, .ref ht_alike, .ref ht_table, .ref ht_keys, .ref ht_own, .long vt_seed, .ref ht_isKept, .ref ht_kept])), (ht_drops, .inl (cI, 4, .inl vt_drops)), (ht_tires, .inl (cI, 4, .inl vt_tires)), (ht_now, .inl (cI, 13, .inl vt_now)), (ht_pages, .inl (cI, 4, .inl x7))] H → va_D A [(ht_own, .inl (cI, 4, .inl zvt_own_24)), (ht, .inr (5, [.int vt_clerks, .ref ht_drops, .ref ht_tires, .ref ht_now, .ref ht_told, .ref ht_text, .int vt_length, .ref ht_pages, .int vt_acts, .int vt_next, .ref ht_row, .int vt_found, .ref ht_alike, .ref ht_table, .ref ht_keys, .ref ht_own, .long vt_seed, .ref ht_isKept, .ref ht_kept])), (ht_drops, .inl (cI, 4, .inl vt_drops)), (ht_tires, .inl (cI, 4, .inl vt_tires)), (ht_now, .inl (cI, 13, .inl vt_now)), (ht_pages, .inl (cI, 4, .inl x7))] → va_S A s.heap H locs → lv_has ls 7 [(6, .int y6_106), (5, .int y5_106), (4, .int y4_52), (3, .int y3_52), (2, .int x1), (0, .ref ht), (1, .int a1)] → f_X6_tells_106 N a1 vt_clerks zvt_own_24 x7 (fun z5_106 z6_106 => if z5_106 = (0:Int32) then f_X6_tells_52 N a1 vt_clerks vt_drops vt_tires vt_now x1 zvt_own_24 (fun z3_52 z4_52 zvt_pages_52 => gZ z3_52 (some (z3_52, (zvt_pages_52, zvt_own_24)))) n52 (1:Int32) (y4_52 + (1:Int32)) x7 else f_X6_tells_52 N a1 vt_clerks vt_drops vt_tires vt_now x1 zvt_own_24 (fun z3_52 z4_52 zvt_pages_52 => gZ z3_52 (some (z3_52, (zvt_pages_52, zvt_own_24)))) n52 (0:Int32) (y4_52 + (1:Int32)) x7) n106 y5_106 y6_106 = some R → W p l e (rm_X6_tells) s m ([.ref ht, .int a1] : List Value).toArray below meth c H locs 0 0 (MQ below (q_X6_tells dC dI cI cJ cZ ht ht_drops ht_tires ht_now ht_told ht_text ht_pages ht_row ht_alike ht_table ht_keys ht_own ht_isKept ht_kept vt_clerks vt_length vt_acts vt_next vt_found vt_seed vt_drops vt_tires vt_now R A) ([.ref ht, .int a1] : List Value).toArray s 0 0 A) (F0 m 106 ls []) := by
                intro n106
                induction n106 with
                | zero => intro y5_106 y6_106 H locs ls hP hD hS hl hf; rw [f_X6_tells_106] at hf; cases hf
                | succ n106 ih106 =>
                  intro y5_106 y6_106 H locs ls hP hD hS hl hf
                  rw [f_X6_tells_106] at hf
                  refine lv_iload hx hb dX6_tells_106 (lv_at hl 0 rfl) ?_
                  refine lv_aload_n hx hb dX6_tells_108 rfl (lv_at hl 5 rfl) ?_
                  refine va_get (D := (dC, dI)) (ci := 5) (v := .int vt_clerks) (C := RX6) (T := TX6) (N := 19) hx hb hts hinX6 hown hK hP 1 rfl rfl 0 (by decide) hw1 (fun _ h9 => h9) rfl dX6_tells_109 ?_
                  refine lv_icmp_ge (tgt := 159) hx hb dX6_tells_112 (by decide) (fun c10 => ?_) (fun c10 => ?_)
                  · replace hf := dg_t c10 hf
                    exact ex106 y5_106 y6_106 _ _ _ hP hD hS (lv_sub hl [0, 1, 2, 3, 4, 5, 6] rfl) hf
                  · replace hf := dg_f c10 hf
                    refine lv_iload hx hb dX6_tells_115 (lv_at hl 1 rfl) ?_
                    refine lv_if_eq (tgt := 150) hx hb dX6_tells_117 (by decide) (fun c11 => ?_) (fun c11 => ?_)
                    · replace hf := dg_t c11 hf
                      refine lv_iconst (v := 0) hx hb dX6_tells_150 (by decide) ?_
                      refine lv_istore (lv' := [(5, .int (0:Int32)), (6, .int y6_106), (4, .int y4_52), (3, .int y3_52), (2, .int x1), (0, .ref ht), (1, .int a1)]) hx hb dX6_tells_151 hl (by decide) rfl (fun ls hl => ?_)
                      refine lv_iinc (v := (y6_106 + (1:Int32))) (lv' := [(6, .int (y6_106 + (1:Int32))), (5, .int (0:Int32)), (4, .int y4_52), (3, .int y3_52), (2, .int x1), (0, .ref ht), (1, .int a1)]) hx hb dX6_tells_153 hl (k := 1) rfl (by first | rfl | decide) (by decide) rfl (fun ls hl => ?_)
                      refine lv_goto (tgt := 106) hx hb dX6_tells_156 (by decide) ?_
                      exact ih106 (0:Int32) (y6_106 + (1:Int32)) _ _ _ hP hD hS (lv_sub hl [0, 1, 2, 3, 4, 5, 6] rfl) hf
                    · replace hf := dg_f c11 hf
                      refine lv_iload_n hx hb dX6_tells_120 rfl (lv_at hl 6 rfl) ?_
                      refine lv_iload hx hb dX6_tells_121 (lv_at hl 0 rfl) ?_
                      obtain ⟨x12, hx12, hf⟩ := dg_bind hf
                      have hPc : va_P (dC, dI) vwCl [] H := hP.sub [] rfl
                      have hDc : va_D A [] := hD.sub [] (by decide) rfl
                      have hFc := va_free (wc := []) hD hS hA [] rfl
                      refine va_calli (va_runS (As := [.int a1, .int y6_106]) (rest := []) ⟨hx, hb, hml, hown, hts⟩ (k_X6_has l dC dI cI cJ cZ H.size a1 y6_106 N x12 hx12) (va_cwS 2 hts gX6_tells_X6_has rfl rfl rfl hd_X6_has ⟨Nat.le_of_ble_eq_true rfl, Nat.le_of_ble_eq_true rfl⟩) ⟨blind_pc, pre_pc hPc hK hDc⟩ rfl rfl hl.1 rfl (lv_room (Nat.le_of_ble_eq_true rfl)) dX6_tells_123 ⟨Nat.zero_le _, Nat.zero_le _⟩) hS (fun q _ h => hFc q h) hFc (fun r u t H1 locs eth hvm hw hB hz1 hk1 hS => ?_)
                      obtain ⟨hP1, hK1, hD1⟩ := hB
                      rw [eth] at hP1
                      subst hw
                      obtain ⟨hP, hD⟩ := va_join (wr := [(ht_own, .inl (cI, 4, .inl zvt_own_24)), (ht, .inr (5, [.int vt_clerks, .ref ht_drops, .ref ht_tires, .ref ht_now, .ref ht_told, .ref ht_text, .int vt_length, .ref ht_pages, .int vt_acts, .int vt_next, .ref ht_row, .int vt_found, .ref ht_alike, .ref ht_table, .ref ht_keys, .ref ht_own, .long vt_seed, .ref ht_isKept, .ref ht_kept])), (ht_drops, .inl (cI, 4, .inl vt_drops)), (ht_tires, .inl (cI, 4, .inl vt_tires)), (ht_now, .inl (cI, 13, .inl vt_now)), (ht_pages, .inl (cI, 4, .inl x7))]) (w1 := []) hP hD [] [0, 1, 2, 3, 4, 5] rfl rfl (by decide) (by decide) hk1 hFc hP1 hD1
                      clear hP1 hK1 hD1 hPc hDc hFc hk1 hz1 hvm eth
                      generalize H1 = H at hP hS ⊢
                      have hP : va_P (dC, dI) vwCl [(ht_own, .inl (cI, 4, .inl zvt_own_24)), (ht, .inr (5, [.int vt_clerks, .ref ht_drops, .ref ht_tires, .ref ht_now, .ref ht_told, .ref ht_text, .int vt_length, .ref ht_pages, .int vt_acts, .int vt_next, .ref ht_row, .int vt_found, .ref ht_alike, .ref ht_table, .ref ht_keys, .ref ht_own, .long vt_seed, .ref ht_isKept, .ref ht_kept])), (ht_drops, .inl (cI, 4, .inl vt_drops)), (ht_tires, .inl (cI, 4, .inl vt_tires)), (ht_now, .inl (cI, 13, .inl vt_now)), (ht_pages, .inl (cI, 4, .inl x7))] H := hP
                      have hD : va_D A [(ht_own, .inl (cI, 4, .inl zvt_own_24)), (ht, .inr (5, [.int vt_clerks, .ref ht_drops, .ref ht_tires, .ref ht_now, .ref ht_told, .ref ht_text, .int vt_length, .ref ht_pages, .int vt_acts, .int vt_next, .ref ht_row, .int vt_found, .ref ht_alike, .ref ht_table, .ref ht_keys, .ref ht_own, .long vt_seed, .ref ht_isKept, .ref ht_kept])), (ht_drops, .inl (cI, 4, .inl vt_drops)), (ht_tires, .inl (cI, 4, .inl vt_tires)), (ht_now, .inl (cI, 13, .inl vt_now)), (ht_pages, .inl (cI, 4, .inl x7))] := hD
                      refine lv_if_eq (tgt := 146) hx hb dX6_tells_126 (by decide) (fun c13 => ?_) (fun c13 => ?_)
                      · replace hf := dg_t c13 hf
                        refine lv_iconst (v := 1) hx hb dX6_tells_146 (by decide) ?_
                        refine lv_goto (tgt := 151) hx hb dX6_tells_147 (by decide) ?_
                        refine lv_istore (lv' := [(5, .int (1:Int32)), (6, .int y6_106), (4, .int y4_52), (3, .int y3_52), (2, .int x1), (0, .ref ht), (1, .int a1)]) hx hb dX6_tells_151 hl (by decide) rfl (fun ls hl => ?_)
                        refine lv_iinc (v := (y6_106 + (1:Int32))) (lv' := [(6, .int (y6_106 + (1:Int32))), (5, .int (1:Int32)), (4, .int y4_52), (3, .int y3_52), (2, .int x1), (0, .ref ht), (1, .int a1)]) hx hb dX6_tells_153 hl (k := 1) rfl (by first | rfl | decide) (by decide) rfl (fun ls hl => ?_)
                        refine lv_goto (tgt := 106) hx hb dX6_tells_156 (by decide) ?_
                        exact ih106 (1:Int32) (y6_106 + (1:Int32)) _ _ _ hP hD hS (lv_sub hl [0, 1, 2, 3, 4, 5, 6] rfl) hf
                      · replace hf := dg_f c13 hf
                        refine lv_aload_n hx hb dX6_tells_129 rfl (lv_at hl 5 rfl) ?_
                        refine va_get (D := (dC, dI)) (ci := 5) (v := .ref ht_pages) (C := RX6) (T := TX6) (N := 19) hx hb hts hinX6 hown hK hP 1 rfl rfl 7 (by decide) hw2 (fun _ h9 => h9) rfl dX6_tells_130 ?_
                        refine lv_iload hx hb dX6_tells_133 (lv_at hl 0 rfl) ?_
                        obtain ⟨hi14, hf⟩ := dg_ix hf
                        refine va_iald hx hb hK hP 5 0 rfl rfl hi14 dX6_tells_135 ?_
                        refine lv_aload_n hx hb dX6_tells_136 rfl (lv_at hl 5 rfl) ?_
                        refine va_get (D := (dC, dI)) (ci := 5) (v := .ref ht_own) (C := RX6) (T := TX6) (N := 19) hx hb hts hinX6 hown hK hP 1 rfl rfl 15 (by decide) hw3 (fun _ h9 => h9) rfl dX6_tells_137 ?_
                        refine lv_iload hx hb dX6_tells_140 (lv_at hl 0 rfl) ?_
                        obtain ⟨hi15, hf⟩ := dg_ix hf
                        refine va_iald hx hb hK hP 0 0 rfl rfl hi15 dX6_tells_142 ?_
                        refine lv_icmp_ne (tgt := 150) hx hb dX6_tells_143 (by decide) (fun c16 => ?_) (fun c16 => ?_)
                        · replace hf := dg_f c16 hf
                          refine lv_iconst (v := 0) hx hb dX6_tells_150 (by decide) ?_
                          refine lv_istore (lv' := [(5, .int (0:Int32)), (6, .int y6_106), (4, .int y4_52), (3, .int y3_52), (2, .int x1), (0, .ref ht), (1, .int a1)]) hx hb dX6_tells_151 hl (by decide) rfl (fun ls hl => ?_)
                          refine lv_iinc (v := (y6_106 + (1:Int32))) (lv' := [(6, .int (y6_106 + (1:Int32))), (5, .int (0:Int32)), (4, .int y4_52), (3, .int y3_52), (2, .int x1), (0, .ref ht), (1, .int a1)]) hx hb dX6_tells_153 hl (k := 1) rfl (by first | rfl | decide) (by decide) rfl (fun ls hl => ?_)
                          refine lv_goto (tgt := 106) hx hb dX6_tells_156 (by decide) ?_
                          exact ih106 (0:Int32) (y6_106 + (1:Int32)) _ _ _ hP hD hS (lv_sub hl [0, 1, 2, 3, 4, 5, 6] rfl) hf
                        · replace hf := dg_t c16 hf
                          refine lv_iconst (v := 1) hx hb dX6_tells_146 (by decide) ?_
                          refine lv_goto (tgt := 151) hx hb dX6_tells_147 (by decide) ?_
                          refine lv_istore (lv' := [(5, .int (1:Int32)), (6, .int y6_106), (4, .int y4_52), (3, .int y3_52), (2, .int x1), (0, .ref ht), (1, .int a1)]) hx hb dX6_tells_151 hl (by decide) rfl (fun ls hl => ?_)
                          refine lv_iinc (v := (y6_106 + (1:Int32))) (lv' := [(6, .int (y6_106 + (1:Int32))), (5, .int (1:Int32)), (4, .int y4_52), (3, .int y3_52), (2, .int x1), (0, .ref ht), (1, .int a1)]) hx hb dX6_tells_153 hl (k := 1) rfl (by first | rfl | decide) (by decide) rfl (fun ls hl => ?_)
                          refine lv_goto (tgt := 106) hx hb dX6_tells_156 (by decide) ?_
                          exact ih106 (1:Int32) (y6_106 + (1:Int32)) _ _ _ hP hD hS (lv_sub hl [0, 1, 2, 3, 4, 5, 6] rfl) hf
              exact lp106 N (0:Int32) (0:Int32) _ _ _ hP hD hS hl hf
            · replace hf := dg_f c8 hf
              refine lv_iconst (v := 1) hx hb dX6_tells_96 (by decide) ?_
              refine lv_goto (tgt := 101) hx hb dX6_tells_97 (by decide) ?_
              refine lv_istore (lv' := [(5, .int (1:Int32)), (4, .int y4_52), (3, .int y3_52), (2, .int x1), (0, .ref ht), (1, .int a1)]) hx hb dX6_tells_101 hl (by decide) rfl (fun ls hl => ?_)
              refine lv_iconst (v := 0) hx hb dX6_tells_103 (by decide) ?_
              refine lv_istore (lv' := [(6, .int (0:Int32)), (5, .int (1:Int32)), (4, .int y4_52), (3, .int y3_52), (2, .int x1), (0, .ref ht), (1, .int a1)]) hx hb dX6_tells_104 hl (by decide) rfl (fun ls hl => ?_)
              have ex106 : ∀ (z5_106 : Int32) (z6_106 : Int32) (H : Heap) (locs : List Loc) (ls : Array Slot), va_P (dC, dI) vwCl [(ht_own, .inl (cI, 4, .inl zvt_own_24)), (ht, .inr (5, [.int vt_clerks, .ref ht_drops, .ref ht_tires, .ref ht_now, .ref ht_told, .ref ht_text, .int vt_length, .ref ht_pages, .int vt_acts, .int vt_next, .ref ht_row, .int vt_found, .ref ht_alike, .ref ht_table, .ref ht_keys, .ref ht_own, .long vt_seed, .ref ht_isKept, .ref ht_kept])), (ht_drops, .inl (cI, 4, .inl vt_drops)), (ht_tires, .inl (cI, 4, .inl vt_tires)), (ht_now, .inl (cI, 13, .inl vt_now)), (ht_pages, .inl (cI, 4, .inl x7))] H → va_D A [(ht_own, .inl (cI, 4, .inl zvt_own_24)), (ht, .inr (5, [.int vt_clerks, .ref ht_drops, .ref ht_tires, .ref ht_now, .ref ht_told, .ref ht_text, .int vt_length, .ref ht_pages, .int vt_acts, .int vt_next, .ref ht_row, .int vt_found, .ref ht_alike, .ref ht_table, .ref ht_keys, .ref ht_own, .long vt_seed, .ref ht_isKept, .ref ht_kept])), (ht_drops, .inl (cI, 4, .inl vt_drops)), (ht_tires, .inl (cI, 4, .inl vt_tires)), (ht_now, .inl (cI, 13, .inl vt_now)), (ht_pages, .inl (cI, 4, .inl x7))] → va_S A s.heap H locs → lv_has ls 7 [(6, .int z6_106), (5, .int z5_106), (4, .int y4_52), (3, .int y3_52), (2, .int x1), (0, .ref ht), (1, .int a1)] → (if z5_106 = (0:Int32) then f_X6_tells_52 N a1 vt_clerks vt_drops vt_tires vt_now x1 zvt_own_24 (fun z3_52 z4_52 zvt_pages_52 => gZ z3_52 (some (z3_52, (zvt_pages_52, zvt_own_24)))) n52 (1:Int32) (y4_52 + (1:Int32)) x7 else f_X6_tells_52 N a1 vt_clerks vt_drops vt_tires vt_now x1 zvt_own_24 (fun z3_52 z4_52 zvt_pages_52 => gZ z3_52 (some (z3_52, (zvt_pages_52, zvt_own_24)))) n52 (0:Int32) (y4_52 + (1:Int32)) x7) = some R → W p l e (rm_X6_tells) s m ([.ref ht, .int a1] : List Value).toArray below meth c H locs 0 0 (MQ below (q_X6_tells dC dI cI cJ cZ ht ht_drops ht_tires ht_now ht_told ht_text ht_pages ht_row ht_alike ht_table ht_keys ht_own ht_isKept ht_kept vt_clerks vt_length vt_acts vt_next vt_found vt_seed vt_drops vt_tires vt_now R A) ([.ref ht, .int a1] : List Value).toArray s 0 0 A) (F0 m 159 ls []) := by
                intro z5_106 z6_106 H locs ls hP hD hS hl hf
                refine lv_iload hx hb dX6_tells_159 (lv_at hl 1 rfl) ?_
                refine lv_if_ne (tgt := 168) hx hb dX6_tells_161 (by decide) (fun c17 => ?_) (fun c17 => ?_)
                · replace hf := dg_f c17 hf
                  refine lv_iconst (v := 0) hx hb dX6_tells_168 (by decide) ?_
                  refine lv_istore_n (lv' := [(3, .int (0:Int32)), (6, .int z6_106), (5, .int z5_106), (4, .int y4_52), (2, .int x1), (0, .ref ht), (1, .int a1)]) hx hb dX6_tells_169 rfl hl (by decide) rfl (fun ls hl => ?_)
                  refine lv_iinc (v := (y4_52 + (1:Int32))) (lv' := [(4, .int (y4_52 + (1:Int32))), (3, .int (0:Int32)), (6, .int z6_106), (5, .int z5_106), (2, .int x1), (0, .ref ht), (1, .int a1)]) hx hb dX6_tells_170 hl (k := 3) rfl (by first | rfl | decide) (by decide) rfl (fun ls hl => ?_)
                  refine lv_goto (tgt := 52) hx hb dX6_tells_173 (by decide) ?_
                  exact ih52 (0:Int32) (y4_52 + (1:Int32)) x7 _ _ _ hP hD hS (lv_sub hl [0, 1, 4, 5, 6] rfl) hf
                · replace hf := dg_t c17 hf
                  refine lv_iconst (v := 1) hx hb dX6_tells_164 (by decide) ?_
                  refine lv_goto (tgt := 169) hx hb dX6_tells_165 (by decide) ?_
                  refine lv_istore_n (lv' := [(3, .int (1:Int32)), (6, .int z6_106), (5, .int z5_106), (4, .int y4_52), (2, .int x1), (0, .ref ht), (1, .int a1)]) hx hb dX6_tells_169 rfl hl (by decide) rfl (fun ls hl => ?_)
                  refine lv_iinc (v := (y4_52 + (1:Int32))) (lv' := [(4, .int (y4_52 + (1:Int32))), (3, .int (1:Int32)), (6, .int z6_106), (5, .int z5_106), (2, .int x1), (0, .ref ht), (1, .int a1)]) hx hb dX6_tells_170 hl (k := 3) rfl (by first | rfl | decide) (by decide) rfl (fun ls hl => ?_)
                  refine lv_goto (tgt := 52) hx hb dX6_tells_173 (by decide) ?_
                  exact ih52 (1:Int32) (y4_52 + (1:Int32)) x7 _ _ _ hP hD hS (lv_sub hl [0, 1, 4, 5, 6] rfl) hf
              have lp106 : ∀ (n106 : Nat) (y5_106 : Int32) (y6_106 : Int32) (H : Heap) (locs : List Loc) (ls : Array Slot), va_P (dC, dI) vwCl [(ht_own, .inl (cI, 4, .inl zvt_own_24)), (ht, .inr (5, [.int vt_clerks, .ref ht_drops, .ref ht_tires, .ref ht_now, .ref ht_told, .ref ht_text, .int vt_length, .ref ht_pages, .int vt_acts, .int vt_next, .ref ht_row, .int vt_found, .ref ht_alike, .ref ht_table, .ref ht_keys, .ref ht_own, .long vt_seed, .ref ht_isKept, .ref ht_kept])), (ht_drops, .inl (cI, 4, .inl vt_drops)), (ht_tires, .inl (cI, 4, .inl vt_tires)), (ht_now, .inl (cI, 13, .inl vt_now)), (ht_pages, .inl (cI, 4, .inl x7))] H → va_D A [(ht_own, .inl (cI, 4, .inl zvt_own_24)), (ht, .inr (5, [.int vt_clerks, .ref ht_drops, .ref ht_tires, .ref ht_now, .ref ht_told, .ref ht_text, .int vt_length, .ref ht_pages, .int vt_acts, .int vt_next, .ref ht_row, .int vt_found, .ref ht_alike, .ref ht_table, .ref ht_keys, .ref ht_own, .long vt_seed, .ref ht_isKept, .ref ht_kept])), (ht_drops, .inl (cI, 4, .inl vt_drops)), (ht_tires, .inl (cI, 4, .inl vt_tires)), (ht_now, .inl (cI, 13, .inl vt_now)), (ht_pages, .inl (cI, 4, .inl x7))] → va_S A s.heap H locs → lv_has ls 7 [(6, .int y6_106), (5, .int y5_106), (4, .int y4_52), (3, .int y3_52), (2, .int x1), (0, .ref ht), (1, .int a1)] → f_X6_tells_106 N a1 vt_clerks zvt_own_24 x7 (fun z5_106 z6_106 => if z5_106 = (0:Int32) then f_X6_tells_52 N a1 vt_clerks vt_drops vt_tires vt_now x1 zvt_own_24 (fun z3_52 z4_52 zvt_pages_52 => gZ z3_52 (some (z3_52, (zvt_pages_52, zvt_own_24)))) n52 (1:Int32) (y4_52 + (1:Int32)) x7 else f_X6_tells_52 N a1 vt_clerks vt_drops vt_tires vt_now x1 zvt_own_24 (fun z3_52 z4_52 zvt_pages_52 => gZ z3_52 (some (z3_52, (zvt_pages_52, zvt_own_24)))) n52 (0:Int32) (y4_52 + (1:Int32)) x7) n106 y5_106 y6_106 = some R → W p l e (rm_X6_tells) s m ([.ref ht, .int a1] : List Value).toArray below meth c H locs 0 0 (MQ below (q_X6_tells dC dI cI cJ cZ ht ht_drops ht_tires ht_now ht_told ht_text ht_pages ht_row ht_alike ht_table ht_keys ht_own ht_isKept ht_kept vt_clerks vt_length vt_acts vt_next vt_found vt_seed vt_drops vt_tires vt_now R A) ([.ref ht, .int a1] : List Value).toArray s 0 0 A) (F0 m 106 ls []) := by
                intro n106
                induction n106 with
                | zero => intro y5_106 y6_106 H locs ls hP hD hS hl hf; rw [f_X6_tells_106] at hf; cases hf
                | succ n106 ih106 =>
                  intro y5_106 y6_106 H locs ls hP hD hS hl hf
                  rw [f_X6_tells_106] at hf
                  refine lv_iload hx hb dX6_tells_106 (lv_at hl 0 rfl) ?_
                  refine lv_aload_n hx hb dX6_tells_108 rfl (lv_at hl 5 rfl) ?_
                  refine va_get (D := (dC, dI)) (ci := 5) (v := .int vt_clerks) (C := RX6) (T := TX6) (N := 19) hx hb hts hinX6 hown hK hP 1 rfl rfl 0 (by decide) hw1 (fun _ h9 => h9) rfl dX6_tells_109 ?_
                  refine lv_icmp_ge (tgt := 159) hx hb dX6_tells_112 (by decide) (fun c18 => ?_) (fun c18 => ?_)
                  · replace hf := dg_t c18 hf
                    exact ex106 y5_106 y6_106 _ _ _ hP hD hS (lv_sub hl [0, 1, 2, 3, 4, 5, 6] rfl) hf
                  · replace hf := dg_f c18 hf
                    refine lv_iload hx hb dX6_tells_115 (lv_at hl 1 rfl) ?_
                    refine lv_if_eq (tgt := 150) hx hb dX6_tells_117 (by decide) (fun c19 => ?_) (fun c19 => ?_)
                    · replace hf := dg_t c19 hf
                      refine lv_iconst (v := 0) hx hb dX6_tells_150 (by decide) ?_
                      refine lv_istore (lv' := [(5, .int (0:Int32)), (6, .int y6_106), (4, .int y4_52), (3, .int y3_52), (2, .int x1), (0, .ref ht), (1, .int a1)]) hx hb dX6_tells_151 hl (by decide) rfl (fun ls hl => ?_)
                      refine lv_iinc (v := (y6_106 + (1:Int32))) (lv' := [(6, .int (y6_106 + (1:Int32))), (5, .int (0:Int32)), (4, .int y4_52), (3, .int y3_52), (2, .int x1), (0, .ref ht), (1, .int a1)]) hx hb dX6_tells_153 hl (k := 1) rfl (by first | rfl | decide) (by decide) rfl (fun ls hl => ?_)
                      refine lv_goto (tgt := 106) hx hb dX6_tells_156 (by decide) ?_
                      exact ih106 (0:Int32) (y6_106 + (1:Int32)) _ _ _ hP hD hS (lv_sub hl [0, 1, 2, 3, 4, 5, 6] rfl) hf
                    · replace hf := dg_f c19 hf
                      refine lv_iload_n hx hb dX6_tells_120 rfl (lv_at hl 6 rfl) ?_
                      refine lv_iload hx hb dX6_tells_121 (lv_at hl 0 rfl) ?_
                      obtain ⟨x20, hx20, hf⟩ := dg_bind hf
                      have hPc : va_P (dC, dI) vwCl [] H := hP.sub [] rfl
                      have hDc : va_D A [] := hD.sub [] (by decide) rfl
                      have hFc := va_free (wc := []) hD hS hA [] rfl
                      refine va_calli (va_runS (As := [.int a1, .int y6_106]) (rest := []) ⟨hx, hb, hml, hown, hts⟩ (k_X6_has l dC dI cI cJ cZ H.size a1 y6_106 N x20 hx20) (va_cwS 2 hts gX6_tells_X6_has rfl rfl rfl hd_X6_has ⟨Nat.le_of_ble_eq_true rfl, Nat.le_of_ble_eq_true rfl⟩) ⟨blind_pc, pre_pc hPc hK hDc⟩ rfl rfl hl.1 rfl (lv_room (Nat.le_of_ble_eq_true rfl)) dX6_tells_123 ⟨Nat.zero_le _, Nat.zero_le _⟩) hS (fun q _ h => hFc q h) hFc (fun r u t H1 locs eth hvm hw hB hz1 hk1 hS => ?_)
                      obtain ⟨hP1, hK1, hD1⟩ := hB
                      rw [eth] at hP1
                      subst hw
                      obtain ⟨hP, hD⟩ := va_join (wr := [(ht_own, .inl (cI, 4, .inl zvt_own_24)), (ht, .inr (5, [.int vt_clerks, .ref ht_drops, .ref ht_tires, .ref ht_now, .ref ht_told, .ref ht_text, .int vt_length, .ref ht_pages, .int vt_acts, .int vt_next, .ref ht_row, .int vt_found, .ref ht_alike, .ref ht_table, .ref ht_keys, .ref ht_own, .long vt_seed, .ref ht_isKept, .ref ht_kept])), (ht_drops, .inl (cI, 4, .inl vt_drops)), (ht_tires, .inl (cI, 4, .inl vt_tires)), (ht_now, .inl (cI, 13, .inl vt_now)), (ht_pages, .inl (cI, 4, .inl x7))]) (w1 := []) hP hD [] [0, 1, 2, 3, 4, 5] rfl rfl (by decide) (by decide) hk1 hFc hP1 hD1
                      clear hP1 hK1 hD1 hPc hDc hFc hk1 hz1 hvm eth
                      generalize H1 = H at hP hS ⊢
                      have hP : va_P (dC, dI) vwCl [(ht_own, .inl (cI, 4, .inl zvt_own_24)), (ht, .inr (5, [.int vt_clerks, .ref ht_drops, .ref ht_tires, .ref ht_now, .ref ht_told, .ref ht_text, .int vt_length, .ref ht_pages, .int vt_acts, .int vt_next, .ref ht_row, .int vt_found, .ref ht_alike, .ref ht_table, .ref ht_keys, .ref ht_own, .long vt_seed, .ref ht_isKept, .ref ht_kept])), (ht_drops, .inl (cI, 4, .inl vt_drops)), (ht_tires, .inl (cI, 4, .inl vt_tires)), (ht_now, .inl (cI, 13, .inl vt_now)), (ht_pages, .inl (cI, 4, .inl x7))] H := hP
                      have hD : va_D A [(ht_own, .inl (cI, 4, .inl zvt_own_24)), (ht, .inr (5, [.int vt_clerks, .ref ht_drops, .ref ht_tires, .ref ht_now, .ref ht_told, .ref ht_text, .int vt_length, .ref ht_pages, .int vt_acts, .int vt_next, .ref ht_row, .int vt_found, .ref ht_alike, .ref ht_table, .ref ht_keys, .ref ht_own, .long vt_seed, .ref ht_isKept, .ref ht_kept])), (ht_drops, .inl (cI, 4, .inl vt_drops)), (ht_tires, .inl (cI, 4, .inl vt_tires)), (ht_now, .inl (cI, 13, .inl vt_now)), (ht_pages, .inl (cI, 4, .inl x7))] := hD
                      refine lv_if_eq (tgt := 146) hx hb dX6_tells_126 (by decide) (fun c21 => ?_) (fun c21 => ?_)
                      · replace hf := dg_t c21 hf
                        refine lv_iconst (v := 1) hx hb dX6_tells_146 (by decide) ?_
                        refine lv_goto (tgt := 151) hx hb dX6_tells_147 (by decide) ?_
                        refine lv_istore (lv' := [(5, .int (1:Int32)), (6, .int y6_106), (4, .int y4_52), (3, .int y3_52), (2, .int x1), (0, .ref ht), (1, .int a1)]) hx hb dX6_tells_151 hl (by decide) rfl (fun ls hl => ?_)
                        refine lv_iinc (v := (y6_106 + (1:Int32))) (lv' := [(6, .int (y6_106 + (1:Int32))), (5, .int (1:Int32)), (4, .int y4_52), (3, .int y3_52), (2, .int x1), (0, .ref ht), (1, .int a1)]) hx hb dX6_tells_153 hl (k := 1) rfl (by first | rfl | decide) (by decide) rfl (fun ls hl => ?_)
                        refine lv_goto (tgt := 106) hx hb dX6_tells_156 (by decide) ?_
                        exact ih106 (1:Int32) (y6_106 + (1:Int32)) _ _ _ hP hD hS (lv_sub hl [0, 1, 2, 3, 4, 5, 6] rfl) hf
                      · replace hf := dg_f c21 hf
                        refine lv_aload_n hx hb dX6_tells_129 rfl (lv_at hl 5 rfl) ?_
                        refine va_get (D := (dC, dI)) (ci := 5) (v := .ref ht_pages) (C := RX6) (T := TX6) (N := 19) hx hb hts hinX6 hown hK hP 1 rfl rfl 7 (by decide) hw2 (fun _ h9 => h9) rfl dX6_tells_130 ?_
                        refine lv_iload hx hb dX6_tells_133 (lv_at hl 0 rfl) ?_
                        obtain ⟨hi22, hf⟩ := dg_ix hf
                        refine va_iald hx hb hK hP 5 0 rfl rfl hi22 dX6_tells_135 ?_
                        refine lv_aload_n hx hb dX6_tells_136 rfl (lv_at hl 5 rfl) ?_
                        refine va_get (D := (dC, dI)) (ci := 5) (v := .ref ht_own) (C := RX6) (T := TX6) (N := 19) hx hb hts hinX6 hown hK hP 1 rfl rfl 15 (by decide) hw3 (fun _ h9 => h9) rfl dX6_tells_137 ?_
                        refine lv_iload hx hb dX6_tells_140 (lv_at hl 0 rfl) ?_
                        obtain ⟨hi23, hf⟩ := dg_ix hf
                        refine va_iald hx hb hK hP 0 0 rfl rfl hi23 dX6_tells_142 ?_
                        refine lv_icmp_ne (tgt := 150) hx hb dX6_tells_143 (by decide) (fun c24 => ?_) (fun c24 => ?_)
                        · replace hf := dg_f c24 hf
                          refine lv_iconst (v := 0) hx hb dX6_tells_150 (by decide) ?_
                          refine lv_istore (lv' := [(5, .int (0:Int32)), (6, .int y6_106), (4, .int y4_52), (3, .int y3_52), (2, .int x1), (0, .ref ht), (1, .int a1)]) hx hb dX6_tells_151 hl (by decide) rfl (fun ls hl => ?_)
                          refine lv_iinc (v := (y6_106 + (1:Int32))) (lv' := [(6, .int (y6_106 + (1:Int32))), (5, .int (0:Int32)), (4, .int y4_52), (3, .int y3_52), (2, .int x1), (0, .ref ht), (1, .int a1)]) hx hb dX6_tells_153 hl (k := 1) rfl (by first | rfl | decide) (by decide) rfl (fun ls hl => ?_)
                          refine lv_goto (tgt := 106) hx hb dX6_tells_156 (by decide) ?_
                          exact ih106 (0:Int32) (y6_106 + (1:Int32)) _ _ _ hP hD hS (lv_sub hl [0, 1, 2, 3, 4, 5, 6] rfl) hf
                        · replace hf := dg_t c24 hf
                          refine lv_iconst (v := 1) hx hb dX6_tells_146 (by decide) ?_
                          refine lv_goto (tgt := 151) hx hb dX6_tells_147 (by decide) ?_
                          refine lv_istore (lv' := [(5, .int (1:Int32)), (6, .int y6_106), (4, .int y4_52), (3, .int y3_52), (2, .int x1), (0, .ref ht), (1, .int a1)]) hx hb dX6_tells_151 hl (by decide) rfl (fun ls hl => ?_)
                          refine lv_iinc (v := (y6_106 + (1:Int32))) (lv' := [(6, .int (y6_106 + (1:Int32))), (5, .int (1:Int32)), (4, .int y4_52), (3, .int y3_52), (2, .int x1), (0, .ref ht), (1, .int a1)]) hx hb dX6_tells_153 hl (k := 1) rfl (by first | rfl | decide) (by decide) rfl (fun ls hl => ?_)
                          refine lv_goto (tgt := 106) hx hb dX6_tells_156 (by decide) ?_
                          exact ih106 (1:Int32) (y6_106 + (1:Int32)) _ _ _ hP hD hS (lv_sub hl [0, 1, 2, 3, 4, 5, 6] rfl) hf
              exact lp106 N (1:Int32) (0:Int32) _ _ _ hP hD hS hl hf
    exact lp52 N (1:Int32) (0:Int32) x2 _ _ _ hP hD hS hl hf
  have lp24 : ∀ (n24 : Nat) (y3_24 : Int32) (yvt_own_24 : (Nat → Int32)) (H : Heap) (locs : List Loc) (ls : Array Slot), va_P (dC, dI) vwCl [(ht_own, .inl (cI, 4, .inl yvt_own_24)), (ht, .inr (5, [.int vt_clerks, .ref ht_drops, .ref ht_tires, .ref ht_now, .ref ht_told, .ref ht_text, .int vt_length, .ref ht_pages, .int vt_acts, .int vt_next, .ref ht_row, .int vt_found, .ref ht_alike, .ref ht_table, .ref ht_keys, .ref ht_own, .long vt_seed, .ref ht_isKept, .ref ht_kept])), (ht_drops, .inl (cI, 4, .inl vt_drops)), (ht_tires, .inl (cI, 4, .inl vt_tires)), (ht_now, .inl (cI, 13, .inl vt_now)), (ht_pages, .inl (cI, 4, .inl x2))] H → va_D A [(ht_own, .inl (cI, 4, .inl yvt_own_24)), (ht, .inr (5, [.int vt_clerks, .ref ht_drops, .ref ht_tires, .ref ht_now, .ref ht_told, .ref ht_text, .int vt_length, .ref ht_pages, .int vt_acts, .int vt_next, .ref ht_row, .int vt_found, .ref ht_alike, .ref ht_table, .ref ht_keys, .ref ht_own, .long vt_seed, .ref ht_isKept, .ref ht_kept])), (ht_drops, .inl (cI, 4, .inl vt_drops)), (ht_tires, .inl (cI, 4, .inl vt_tires)), (ht_now, .inl (cI, 13, .inl vt_now)), (ht_pages, .inl (cI, 4, .inl x2))] → va_S A s.heap H locs → lv_has ls 7 [(3, .int y3_24), (2, .int x1), (0, .ref ht), (1, .int a1)] → f_X6_tells_24 N x2 (fun z3_24 zvt_own_24 => f_X6_tells_52 N a1 vt_clerks vt_drops vt_tires vt_now x1 zvt_own_24 (fun z3_52 z4_52 zvt_pages_52 => gZ z3_52 (some (z3_52, (zvt_pages_52, zvt_own_24)))) N (1:Int32) (0:Int32) x2) n24 y3_24 yvt_own_24 = some R → W p l e (rm_X6_tells) s m ([.ref ht, .int a1] : List Value).toArray below meth c H locs 0 0 (MQ below (q_X6_tells dC dI cI cJ cZ ht ht_drops ht_tires ht_now ht_told ht_text ht_pages ht_row ht_alike ht_table ht_keys ht_own ht_isKept ht_kept vt_clerks vt_length vt_acts vt_next vt_found vt_seed vt_drops vt_tires vt_now R A) ([.ref ht, .int a1] : List Value).toArray s 0 0 A) (F0 m 24 ls []) := by
    intro n24
    induction n24 with
    | zero => intro y3_24 yvt_own_24 H locs ls hP hD hS hl hf; rw [f_X6_tells_24] at hf; cases hf
    | succ n24 ih24 =>
      intro y3_24 yvt_own_24 H locs ls hP hD hS hl hf
      rw [f_X6_tells_24] at hf
      refine lv_iload_n hx hb dX6_tells_24 rfl (lv_at hl 0 rfl) ?_
      refine lv_iconst (v := 4) hx hb dX6_tells_25 (by decide) ?_
      refine lv_icmp_ge (tgt := 47) hx hb dX6_tells_26 (by decide) (fun c25 => ?_) (fun c25 => ?_)
      · replace hf := dg_t c25 hf
        exact ex24 y3_24 yvt_own_24 _ _ _ hP hD hS (lv_sub hl [0, 1, 2, 3] rfl) hf
      · replace hf := dg_f c25 hf
        refine lv_aload_n hx hb dX6_tells_29 rfl (lv_at hl 2 rfl) ?_
        refine va_get (D := (dC, dI)) (ci := 5) (v := .ref ht_own) (C := RX6) (T := TX6) (N := 19) hx hb hts hinX6 hown hK hP 1 rfl rfl 15 (by decide) hw3 (fun _ h9 => h9) rfl dX6_tells_30 ?_
        refine lv_iload_n hx hb dX6_tells_33 rfl (lv_at hl 0 rfl) ?_
        refine lv_aload_n hx hb dX6_tells_34 rfl (lv_at hl 2 rfl) ?_
        refine va_get (D := (dC, dI)) (ci := 5) (v := .ref ht_pages) (C := RX6) (T := TX6) (N := 19) hx hb hts hinX6 hown hK hP 1 rfl rfl 7 (by decide) hw2 (fun _ h9 => h9) rfl dX6_tells_35 ?_
        refine lv_iload_n hx hb dX6_tells_38 rfl (lv_at hl 0 rfl) ?_
        obtain ⟨hi26, hf⟩ := dg_ix hf
        refine va_iald hx hb hK hP 5 0 rfl rfl hi26 dX6_tells_39 ?_
        obtain ⟨hi27, hf⟩ := dg_ix hf
        refine va_iast hx hb hK hP hD hS 0 0 rfl rfl hi27 dX6_tells_40 (fun H locs hP hD hS => ?_)
        have hP : va_P (dC, dI) vwCl [(ht_own, .inl (cI, 4, .inl (upd yvt_own_24 y3_24.toNatClampNeg (x2 y3_24.toNatClampNeg)))), (ht, .inr (5, [.int vt_clerks, .ref ht_drops, .ref ht_tires, .ref ht_now, .ref ht_told, .ref ht_text, .int vt_length, .ref ht_pages, .int vt_acts, .int vt_next, .ref ht_row, .int vt_found, .ref ht_alike, .ref ht_table, .ref ht_keys, .ref ht_own, .long vt_seed, .ref ht_isKept, .ref ht_kept])), (ht_drops, .inl (cI, 4, .inl vt_drops)), (ht_tires, .inl (cI, 4, .inl vt_tires)), (ht_now, .inl (cI, 13, .inl vt_now)), (ht_pages, .inl (cI, 4, .inl x2))] H := hP
        have hD : va_D A [(ht_own, .inl (cI, 4, .inl (upd yvt_own_24 y3_24.toNatClampNeg (x2 y3_24.toNatClampNeg)))), (ht, .inr (5, [.int vt_clerks, .ref ht_drops, .ref ht_tires, .ref ht_now, .ref ht_told, .ref ht_text, .int vt_length, .ref ht_pages, .int vt_acts, .int vt_next, .ref ht_row, .int vt_found, .ref ht_alike, .ref ht_table, .ref ht_keys, .ref ht_own, .long vt_seed, .ref ht_isKept, .ref ht_kept])), (ht_drops, .inl (cI, 4, .inl vt_drops)), (ht_tires, .inl (cI, 4, .inl vt_tires)), (ht_now, .inl (cI, 13, .inl vt_now)), (ht_pages, .inl (cI, 4, .inl x2))] := hD
        refine lv_iinc (v := (y3_24 + (1:Int32))) (lv' := [(3, .int (y3_24 + (1:Int32))), (2, .int x1), (0, .ref ht), (1, .int a1)]) hx hb dX6_tells_41 hl (k := 0) rfl (by first | rfl | decide) (by decide) rfl (fun ls hl => ?_)
        refine lv_goto (tgt := 24) hx hb dX6_tells_44 (by decide) ?_
        exact ih24 (y3_24 + (1:Int32)) (upd yvt_own_24 y3_24.toNatClampNeg (x2 y3_24.toNatClampNeg)) _ _ _ hP hD hS (lv_sub hl [0, 1, 2, 3] rfl) hf
  exact lp24 N (0:Int32) vt_own _ _ _ hP hD hS hl hf
