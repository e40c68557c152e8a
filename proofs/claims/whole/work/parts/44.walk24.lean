theorem hd_X6_lost : yX6_lost.cls = RX6 ∧ yX6_lost.cls ≠ "java/lang/invoke/MethodHandle" ∧ yX6_lost.cls ≠ "java/lang/invoke/VarHandle" ∧ (parseMethodDescriptor yX6_lost.desc).map (fun d => d.parameters.length) = some 2 := by decide +kernel
abbrev rm_X6_lost : Room := { frames := 5, cells := 0, slots := 0, locals := 119 }
abbrev q_X6_lost (dC : Nat → ClassId) (dI : Nat → Nat → Nat) (cI cJ cZ : ClassId) (ht ht_drops ht_tires ht_now ht_told ht_text ht_pages ht_row ht_alike ht_table ht_keys ht_own ht_isKept ht_kept : Nat) (vt_clerks : Int32) (vt_length : Int32) (vt_acts : Int32) (vt_next : Int32) (vt_found : Int32) (vt_seed : Int64) (vt_drops : Nat → Int32) (vt_tires : Nat → Int32) (vt_now : Nat → Int32) (R : Int32 × (Nat → Int32) × (Nat → Int32)) (A : Nat → Prop) : Array Value → State → Outcome → State → Prop := va_Qi (fun (r : Int32) (u : (Nat → Int32) × (Nat → Int32)) => R.1 = r ∧ R.2 = u) (fun (u : (Nat → Int32) × (Nat → Int32)) (t : State) => va_P (dC, dI) vwCl [(ht, .inr (5, [.int vt_clerks, .ref ht_drops, .ref ht_tires, .ref ht_now, .ref ht_told, .ref ht_text, .int vt_length, .ref ht_pages, .int vt_acts, .int vt_next, .ref ht_row, .int vt_found, .ref ht_alike, .ref ht_table, .ref ht_keys, .ref ht_own, .long vt_seed, .ref ht_isKept, .ref ht_kept])), (ht_drops, .inl (cI, 4, .inl vt_drops)), (ht_tires, .inl (cI, 4, .inl vt_tires)), (ht_now, .inl (cI, 13, .inl vt_now)), (ht_pages, .inl (cI, 4, .inl u.1)), (ht_own, .inl (cI, 4, .inl u.2))] t.heap ∧ va_K (dC, dI) vwCl [(cI, .int), (cJ, .long), (cZ, .boolean)] t ∧ va_D A [(ht, .inr (5, [.int vt_clerks, .ref ht_drops, .ref ht_tires, .ref ht_now, .ref ht_told, .ref ht_text, .int vt_length, .ref ht_pages, .int vt_acts, .int vt_next, .ref ht_row, .int vt_found, .ref ht_alike, .ref ht_table, .ref ht_keys, .ref ht_own, .long vt_seed, .ref ht_isKept, .ref ht_kept])), (ht_drops, .inl (cI, 4, .inl vt_drops)), (ht_tires, .inl (cI, 4, .inl vt_tires)), (ht_now, .inl (cI, 13, .inl vt_now)), (ht_pages, .inl (cI, 4, .inl u.1)), (ht_own, .inl (cI, 4, .inl u.2))]) A
set_option maxHeartbeats 4000000 in
set_option maxRecDepth 100000 in
theorem k_X6_lost (l : Launch) (dC : Nat → ClassId) (dI : Nat → Nat → Nat) (cI cJ cZ : ClassId) (sz : Nat) (ht ht_drops ht_tires ht_now ht_told ht_text ht_pages ht_row ht_alike ht_table ht_keys ht_own ht_isKept ht_kept : Nat) (a1 : Int32) (a2 : Int32) (vt_clerks : Int32) (vt_length : Int32) (vt_acts : Int32) (vt_next : Int32) (vt_found : Int32) (vt_seed : Int64) (vt_drops : Nat → Int32) (vt_tires : Nat → Int32) (vt_now : Nat → Int32) (vt_pages : Nat → Int32) (vt_own : Nat → Int32) (N : Nat) (R : Int32 × (Nat → Int32) × (Nat → Int32)) (hf : f_X6_lost N a1 a2 vt_clerks vt_drops vt_tires vt_now vt_pages vt_own = some R) : Met l yX6_lost wsX6_lost (rm_X6_lost) (va_Pc [.ref ht, .int a1, .int a2] (fun U => U.heap.size = sz ∧ va_P (dC, dI) vwCl [(ht, .inr (5, [.int vt_clerks, .ref ht_drops, .ref ht_tires, .ref ht_now, .ref ht_told, .ref ht_text, .int vt_length, .ref ht_pages, .int vt_acts, .int vt_next, .ref ht_row, .int vt_found, .ref ht_alike, .ref ht_table, .ref ht_keys, .ref ht_own, .long vt_seed, .ref ht_isKept, .ref ht_kept])), (ht_drops, .inl (cI, 4, .inl vt_drops)), (ht_tires, .inl (cI, 4, .inl vt_tires)), (ht_now, .inl (cI, 13, .inl vt_now)), (ht_pages, .inl (cI, 4, .inl vt_pages)), (ht_own, .inl (cI, 4, .inl vt_own))] U.heap ∧ va_K (dC, dI) vwCl [(cI, .int), (cJ, .long), (cZ, .boolean)] U ∧ va_D (fun _ => True) [(ht, .inr (5, [.int vt_clerks, .ref ht_drops, .ref ht_tires, .ref ht_now, .ref ht_told, .ref ht_text, .int vt_length, .ref ht_pages, .int vt_acts, .int vt_next, .ref ht_row, .int vt_found, .ref ht_alike, .ref ht_table, .ref ht_keys, .ref ht_own, .long vt_seed, .ref ht_isKept, .ref ht_kept])), (ht_drops, .inl (cI, 4, .inl vt_drops)), (ht_tires, .inl (cI, 4, .inl vt_tires)), (ht_now, .inl (cI, 13, .inl vt_now)), (ht_pages, .inl (cI, 4, .inl vt_pages)), (ht_own, .inl (cI, 4, .inl vt_own))])) (q_X6_lost dC dI cI cJ cZ ht ht_drops ht_tires ht_now ht_told ht_text ht_pages ht_row ht_alike ht_table ht_keys ht_own ht_isKept ht_kept vt_clerks vt_length vt_acts vt_next vt_found vt_seed vt_drops vt_tires vt_now R (va_A [(ht, .inr (5, [.int vt_clerks, .ref ht_drops, .ref ht_tires, .ref ht_now, .ref ht_told, .ref ht_text, .int vt_length, .ref ht_pages, .int vt_acts, .int vt_next, .ref ht_row, .int vt_found, .ref ht_alike, .ref ht_table, .ref ht_keys, .ref ht_own, .long vt_seed, .ref ht_isKept, .ref ht_kept])), (ht_drops, .inl (cI, 4, .inl vt_drops)), (ht_tires, .inl (cI, 4, .inl vt_tires)), (ht_now, .inl (cI, 13, .inl vt_now)), (ht_pages, .inl (cI, 4, .inl vt_pages)), (ht_own, .inl (cI, 4, .inl vt_own))] sz)) 0 0 (va_A [(ht, .inr (5, [.int vt_clerks, .ref ht_drops, .ref ht_tires, .ref ht_now, .ref ht_told, .ref ht_text, .int vt_length, .ref ht_pages, .int vt_acts, .int vt_next, .ref ht_row, .int vt_found, .ref ht_alike, .ref ht_table, .ref ht_keys, .ref ht_own, .long vt_seed, .ref ht_isKept, .ref ht_kept])), (ht_drops, .inl (cI, 4, .inl vt_drops)), (ht_tires, .inl (cI, 4, .inl vt_tires)), (ht_now, .inl (cI, 13, .inl vt_now)), (ht_pages, .inl (cI, 4, .inl vt_pages)), (ht_own, .inl (cI, 4, .inl vt_own))] sz) := by
  refine Met.ofW (cc := cX6_lost) (maxL := 8) (ret := (some .int)) (by decide) rfl ?_
  intro p e s m args below meth c s₁ B hml hv
  obtain ⟨rfl, hsz, hP, hK, hD0⟩ := hv
  have hx := B.exec
  have hb := B.bytes
  have hr := B.returns
  have hts := atoms_spec (ws := wsX6_lost) B.pre
  have hown : s.vm.findClass RX6 = some m.cls := findClass_of_methodNamed B.named
  have hlocks := B.notSynchronized
  clear B
  subst hsz
  have hw0 := hts (.constantLong RX6 179 (10)) (by decide +kernel)
  have hw1 := hts (.fieldLink RX6 16 "ShorthandCourtModel" "now" "[I") (by decide +kernel)
  have hw2 := hts (.fieldLink RX6 79 "ShorthandCourtModel" "clerks" "I") (by decide +kernel)
  have hinX6 : ∀ w ∈ u_ws RX6 TX6 19, w ∈ wsX6_lost := by decide +kernel
  have hD := hD0.self (sz := s.heap.size)
  clear hD0
  generalize hAe : va_A [(ht, .inr (5, [.int vt_clerks, .ref ht_drops, .ref ht_tires, .ref ht_now, .ref ht_told, .ref ht_text, .int vt_length, .ref ht_pages, .int vt_acts, .int vt_next, .ref ht_row, .int vt_found, .ref ht_alike, .ref ht_table, .ref ht_keys, .ref ht_own, .long vt_seed, .ref ht_isKept, .ref ht_kept])), (ht_drops, .inl (cI, 4, .inl vt_drops)), (ht_tires, .inl (cI, 4, .inl vt_tires)), (ht_now, .inl (cI, 13, .inl vt_now)), (ht_pages, .inl (cI, 4, .inl vt_pages)), (ht_own, .inl (cI, 4, .inl vt_own))] s.heap.size = A at hD ⊢
  have hA : ∀ q : Nat, s.heap.size ≤ q → A q := fun q h => by rw [← hAe]; exact Or.inr h
  clear hAe
  have hS : va_S A s.heap s.heap [] := va_S.rf
  have hl := lv_entry ([.ref ht, .int a1, .int a2]) (n := 8) (Nat.le_of_ble_eq_true rfl)
  rw [lg_entry_eq]
  generalize (lg_sl ([.ref ht, .int a1, .int a2]) ++ List.replicate (8 - (lg_sl ([.ref ht, .int a1, .int a2])).length) Slot.unset).toArray = ls at hl ⊢
  have hl : lv_has ls 8 [(0, .ref ht), (1, .int a1), (2, .int a2)] := hl
  unfold f_X6_lost at hf
  refine lv_iload_n hx hb dX6_lost_0 rfl (lv_at hl 1 rfl) ?_
  refine lv_i2l hx hb dX6_lost_1 rfl ?_
  refine lv_lconst (v := 0) hx hb dX6_lost_2 (by decide) ?_
  refine lv_ldc2 (v := 10) hx hb hown hw0 dX6_lost_3 ?_
  obtain ⟨x1, hx1, hf⟩ := dg_bind hf
  have hPc : va_P (dC, dI) vwCl [] s.heap := hP.sub [] rfl
  have hDc : va_D A [] := hD.sub [] (by decide) rfl
  have hFc := va_free (wc := []) hD hS hA [] rfl
  refine va_calli (va_runS (As := [.long a1.toInt64, .long (0:Int64), .long (10:Int64)]) (rest := []) ⟨hx, hb, hml, hown, hts⟩ (k_X6_in l dC dI cI cJ cZ s.heap.size a1.toInt64 (0:Int64) (10:Int64) N x1 hx1) (va_cwS 3 hts gX6_lost_X6_in rfl rfl rfl hd_X6_in ⟨Nat.le_of_ble_eq_true rfl, Nat.le_of_ble_eq_true rfl⟩) ⟨blind_pc, pre_pc hPc hK hDc⟩ rfl rfl hl.1 rfl (lv_room (Nat.le_of_ble_eq_true rfl)) dX6_lost_6 ⟨Nat.zero_le _, Nat.zero_le _⟩) hS (fun q _ h => hFc q h) hFc (fun r u t H1 locs eth hvm hw hB hz1 hk1 hS => ?_)
  obtain ⟨hP1, hK1, hD1⟩ := hB
  rw [eth] at hP1
  subst hw
  obtain ⟨hP, hD⟩ := va_join (wr := [(ht, .inr (5, [.int vt_clerks, .ref ht_drops, .ref ht_tires, .ref ht_now, .ref ht_told, .ref ht_text, .int vt_length, .ref ht_pages, .int vt_acts, .int vt_next, .ref ht_row, .int vt_found, .ref ht_alike, .ref ht_table, .ref ht_keys, .ref ht_own, .long vt_seed, .ref ht_isKept, .ref ht_kept])), (ht_drops, .inl (cI, 4, .inl vt_drops)), (ht_tires, .inl (cI, 4, .inl vt_tires)), (ht_now, .inl (cI, 13, .inl vt_now)), (ht_pages, .inl (cI, 4, .inl vt_pages)), (ht_own, .inl (cI, 4, .inl vt_own))]) (w1 := []) hP hD [] [0, 1, 2, 3, 4, 5] rfl rfl (by decide) (by decide) hk1 hFc hP1 hD1
  clear hP1 hK1 hD1 hPc hDc hFc hk1 hz1 hvm eth
  generalize H1 = H at hP hS ⊢
  have hP : va_P (dC, dI) vwCl [(ht, .inr (5, [.int vt_clerks, .ref ht_drops, .ref ht_tires, .ref ht_now, .ref ht_told, .ref ht_text, .int vt_length, .ref ht_pages, .int vt_acts, .int vt_next, .ref ht_row, .int vt_found, .ref ht_alike, .ref ht_table, .ref ht_keys, .ref ht_own, .long vt_seed, .ref ht_isKept, .ref ht_kept])), (ht_drops, .inl (cI, 4, .inl vt_drops)), (ht_tires, .inl (cI, 4, .inl vt_tires)), (ht_now, .inl (cI, 13, .inl vt_now)), (ht_pages, .inl (cI, 4, .inl vt_pages)), (ht_own, .inl (cI, 4, .inl vt_own))] H := hP
  have hD : va_D A [(ht, .inr (5, [.int vt_clerks, .ref ht_drops, .ref ht_tires, .ref ht_now, .ref ht_told, .ref ht_text, .int vt_length, .ref ht_pages, .int vt_acts, .int vt_next, .ref ht_row, .int vt_found, .ref ht_alike, .ref ht_table, .ref ht_keys, .ref ht_own, .long vt_seed, .ref ht_isKept, .ref ht_kept])), (ht_drops, .inl (cI, 4, .inl vt_drops)), (ht_tires, .inl (cI, 4, .inl vt_tires)), (ht_now, .inl (cI, 13, .inl vt_now)), (ht_pages, .inl (cI, 4, .inl vt_pages)), (ht_own, .inl (cI, 4, .inl vt_own))] := hD
  refine lv_if_ne (tgt := 15) hx hb dX6_lost_9 (by decide) (fun c2 => ?_) (fun c2 => ?_)
  · replace hf := dg_f c2 hf
    refine lv_aload_n hx hb dX6_lost_15 rfl (lv_at hl 0 rfl) ?_
    refine va_get (D := (dC, dI)) (ci := 5) (v := .ref ht_now) (C := RX6) (T := TX6) (N := 19) hx hb hts hinX6 hown hK hP 0 rfl rfl 3 (by decide) hw1 (fun _ h9 => h9) rfl dX6_lost_16 ?_
    refine lv_iconst (v := 0) hx hb dX6_lost_19 (by decide) ?_
    refine va_iald hx hb hK hP 3 0 rfl rfl (vp_in_iff.mpr (by decide)) dX6_lost_20 ?_
    refine W.eq (g2 := F0 m 21 ls [.int (vt_now 0)]) rfl ?_
    obtain ⟨x3, hx3, hf⟩ := dg_bind hf
    have hPc : va_P (dC, dI) vwCl [] H := hP.sub [] rfl
    have hDc : va_D A [] := hD.sub [] (by decide) rfl
    have hFc := va_free (wc := []) hD hS hA [] rfl
    refine va_calli (va_runS (As := [.int (vt_now 0)]) (rest := []) ⟨hx, hb, hml, hown, hts⟩ (k_X6_wordsOf l dC dI cI cJ cZ H.size (vt_now 0) N x3 hx3) (va_cwS 1 hts gX6_lost_X6_wordsOf rfl rfl rfl hd_X6_wordsOf ⟨Nat.le_of_ble_eq_true rfl, Nat.le_of_ble_eq_true rfl⟩) ⟨blind_pc, pre_pc hPc hK hDc⟩ rfl rfl hl.1 rfl (lv_room (Nat.le_of_ble_eq_true rfl)) dX6_lost_21 ⟨Nat.zero_le _, Nat.zero_le _⟩) hS (fun q _ h => hFc q h) hFc (fun r u t H1 locs eth hvm hw hB hz1 hk1 hS => ?_)
    obtain ⟨hP1, hK1, hD1⟩ := hB
    rw [eth] at hP1
    subst hw
    obtain ⟨hP, hD⟩ := va_join (wr := [(ht, .inr (5, [.int vt_clerks, .ref ht_drops, .ref ht_tires, .ref ht_now, .ref ht_told, .ref ht_text, .int vt_length, .ref ht_pages, .int vt_acts, .int vt_next, .ref ht_row, .int vt_found, .ref ht_alike, .ref ht_table, .ref ht_keys, .ref ht_own, .long vt_seed, .ref ht_isKept, .ref ht_kept])), (ht_drops, .inl (cI, 4, .inl vt_drops)), (ht_tires, .inl (cI, 4, .inl vt_tires)), (ht_now, .inl (cI, 13, .inl vt_now)), (ht_pages, .inl (cI, 4, .inl vt_pages)), (ht_own, .inl (cI, 4, .inl vt_own))]) (w1 := []) hP hD [] [0, 1, 2, 3, 4, 5] rfl rfl (by decide) (by decide) hk1 hFc hP1 hD1
    clear hP1 hK1 hD1 hPc hDc hFc hk1 hz1 hvm eth
    generalize H1 = H at hP hS ⊢
    have hP : va_P (dC, dI) vwCl [(ht, .inr (5, [.int vt_clerks, .ref ht_drops, .ref ht_tires, .ref ht_now, .ref ht_told, .ref ht_text, .int vt_length, .ref ht_pages, .int vt_acts, .int vt_next, .ref ht_row, .int vt_found, .ref ht_alike, .ref ht_table, .ref ht_keys, .ref ht_own, .long vt_seed, .ref ht_isKept, .ref ht_kept])), (ht_drops, .inl (cI, 4, .inl vt_drops)), (ht_tires, .inl (cI, 4, .inl vt_tires)), (ht_now, .inl (cI, 13, .inl vt_now)), (ht_pages, .inl (cI, 4, .inl vt_pages)), (ht_own, .inl (cI, 4, .inl vt_own))] H := hP
    have hD : va_D A [(ht, .inr (5, [.int vt_clerks, .ref ht_drops, .ref ht_tires, .ref ht_now, .ref ht_told, .ref ht_text, .int vt_length, .ref ht_pages, .int vt_acts, .int vt_next, .ref ht_row, .int vt_found, .ref ht_alike, .ref ht_table, .ref ht_keys, .ref ht_own, .long vt_seed, .ref ht_isKept, .ref ht_kept])), (ht_drops, .inl (cI, 4, .inl vt_drops)), (ht_tires, .inl (cI, 4, .inl vt_tires)), (ht_now, .inl (cI, 13, .inl vt_now)), (ht_pages, .inl (cI, 4, .inl vt_pages)), (ht_own, .inl (cI, 4, .inl vt_own))] := hD
    refine lv_bipush (v := 6) hx hb dX6_lost_24 (by decide) ?_
    refine lv_icmp_ne (tgt := 32) hx hb dX6_lost_26 (by decide) (fun c4 => ?_) (fun c4 => ?_)
    · replace hf := dg_f c4 hf
      refine lv_iconst (v := 0) hx hb dX6_lost_32 (by decide) ?_
      refine lv_istore_n (lv' := [(3, .int (0:Int32)), (0, .ref ht), (1, .int a1), (2, .int a2)]) hx hb dX6_lost_33 rfl hl (by decide) rfl (fun ls hl => ?_)
      refine lv_iconst (v := 0) hx hb dX6_lost_34 (by decide) ?_
      refine lv_istore (lv' := [(4, .int (0:Int32)), (3, .int (0:Int32)), (0, .ref ht), (1, .int a1), (2, .int a2)]) hx hb dX6_lost_35 hl (by decide) rfl (fun ls hl => ?_)
      refine lv_iconst (v := 0) hx hb dX6_lost_37 (by decide) ?_
      refine lv_istore (lv' := [(5, .int (0:Int32)), (4, .int (0:Int32)), (3, .int (0:Int32)), (0, .ref ht), (1, .int a1), (2, .int a2)]) hx hb dX6_lost_38 hl (by decide) rfl (fun ls hl => ?_)
      have ex40 : ∀ (z3_40 : Int32) (z4_40 : Int32) (z5_40 : Int32) (zvt_pages_40 : (Nat → Int32)) (zvt_own_40 : (Nat → Int32)) (H : Heap) (locs : List Loc) (ls : Array Slot), va_P (dC, dI) vwCl [(ht, .inr (5, [.int vt_clerks, .ref ht_drops, .ref ht_tires, .ref ht_now, .ref ht_told, .ref ht_text, .int vt_length, .ref ht_pages, .int vt_acts, .int vt_next, .ref ht_row, .int vt_found, .ref ht_alike, .ref ht_table, .ref ht_keys, .ref ht_own, .long vt_seed, .ref ht_isKept, .ref ht_kept])), (ht_drops, .inl (cI, 4, .inl vt_drops)), (ht_tires, .inl (cI, 4, .inl vt_tires)), (ht_now, .inl (cI, 13, .inl vt_now)), (ht_pages, .inl (cI, 4, .inl zvt_pages_40)), (ht_own, .inl (cI, 4, .inl zvt_own_40))] H → va_D A [(ht, .inr (5, [.int vt_clerks, .ref ht_drops, .ref ht_tires, .ref ht_now, .ref ht_told, .ref ht_text, .int vt_length, .ref ht_pages, .int vt_acts, .int vt_next, .ref ht_row, .int vt_found, .ref ht_alike, .ref ht_table, .ref ht_keys, .ref ht_own, .long vt_seed, .ref ht_isKept, .ref ht_kept])), (ht_drops, .inl (cI, 4, .inl vt_drops)), (ht_tires, .inl (cI, 4, .inl vt_tires)), (ht_now, .inl (cI, 13, .inl vt_now)), (ht_pages, .inl (cI, 4, .inl zvt_pages_40)), (ht_own, .inl (cI, 4, .inl zvt_own_40))] → va_S A s.heap H locs → lv_has ls 8 [(5, .int z5_40), (4, .int z4_40), (3, .int z3_40), (0, .ref ht), (1, .int a1), (2, .int a2)] → ((f_X6_common N z3_40 z4_40).bind (fun x5 => if a2 = (0:Int32) then gN x5 (some ((z4_40 / x5), (zvt_pages_40, zvt_own_40))) else gN x5 (some ((z3_40 / x5), (zvt_pages_40, zvt_own_40))))) = some R → W p l e (rm_X6_lost) s m ([.ref ht, .int a1, .int a2] : List Value).toArray below meth c H locs 0 0 (MQ below (q_X6_lost dC dI cI cJ cZ ht ht_drops ht_tires ht_now ht_told ht_text ht_pages ht_row ht_alike ht_table ht_keys ht_own ht_isKept ht_kept vt_clerks vt_length vt_acts vt_next vt_found vt_seed vt_drops vt_tires vt_now R A) ([.ref ht, .int a1, .int a2] : List Value).toArray s 0 0 A) (F0 m 131 ls []) := by
        intro z3_40 z4_40 z5_40 zvt_pages_40 zvt_own_40 H locs ls hP hD hS hl hf
        refine lv_iload_n hx hb dX6_lost_131 rfl (lv_at hl 2 rfl) ?_
        refine lv_iload hx hb dX6_lost_132 (lv_at hl 1 rfl) ?_
        obtain ⟨x5, hx5, hf⟩ := dg_bind hf
        have hPc : va_P (dC, dI) vwCl [] H := hP.sub [] rfl
        have hDc : va_D A [] := hD.sub [] (by decide) rfl
        have hFc := va_free (wc := []) hD hS hA [] rfl
        refine va_calli (va_runS (As := [.int z3_40, .int z4_40]) (rest := []) ⟨hx, hb, hml, hown, hts⟩ (k_X6_common l dC dI cI cJ cZ H.size z3_40 z4_40 N x5 hx5) (va_cwS 2 hts gX6_lost_X6_common rfl rfl rfl hd_X6_common ⟨Nat.le_of_ble_eq_true rfl, Nat.le_of_ble_eq_true rfl⟩) ⟨blind_pc, pre_pc hPc hK hDc⟩ rfl rfl hl.1 rfl (lv_room (Nat.le_of_ble_eq_true rfl)) dX6_lost_134 ⟨Nat.zero_le _, Nat.zero_le _⟩) hS (fun q _ h => hFc q h) hFc (fun r u t H1 locs eth hvm hw hB hz1 hk1 hS => ?_)
        obtain ⟨hP1, hK1, hD1⟩ := hB
        rw [eth] at hP1
        subst hw
        obtain ⟨hP, hD⟩ := va_join (wr := [(ht, .inr (5, [.int vt_clerks, .ref ht_drops, .ref ht_tires, .ref ht_now, .ref ht_told, .ref ht_text, .int vt_length, .ref ht_pages, .int vt_acts, .int vt_next, .ref ht_row, .int vt_found, .ref ht_alike, .ref ht_table, .ref ht_keys, .ref ht_own, .long vt_seed, .ref ht_isKept, .ref ht_kept])), (ht_drops, .inl (cI, 4, .inl vt_drops)), (ht_tires, .inl (cI, 4, .inl vt_tires)), (ht_now, .inl (cI, 13, .inl vt_now)), (ht_pages, .inl (cI, 4, .inl zvt_pages_40)), (ht_own, .inl (cI, 4, .inl zvt_own_40))]) (w1 := []) hP hD [] [0, 1, 2, 3, 4, 5] rfl rfl (by decide) (by decide) hk1 hFc hP1 hD1
        clear hP1 hK1 hD1 hPc hDc hFc hk1 hz1 hvm eth
        generalize H1 = H at hP hS ⊢
        have hP : va_P (dC, dI) vwCl [(ht, .inr (5, [.int vt_clerks, .ref ht_drops, .ref ht_tires, .ref ht_now, .ref ht_told, .ref ht_text, .int vt_length, .ref ht_pages, .int vt_acts, .int vt_next, .ref ht_row, .int vt_found, .ref ht_alike, .ref ht_table, .ref ht_keys, .ref ht_own, .long vt_seed, .ref ht_isKept, .ref ht_kept])), (ht_drops, .inl (cI, 4, .inl vt_drops)), (ht_tires, .inl (cI, 4, .inl vt_tires)), (ht_now, .inl (cI, 13, .inl vt_now)), (ht_pages, .inl (cI, 4, .inl zvt_pages_40)), (ht_own, .inl (cI, 4, .inl zvt_own_40))] H := hP
        have hD : va_D A [(ht, .inr (5, [.int vt_clerks, .ref ht_drops, .ref ht_tires, .ref ht_now, .ref ht_told, .ref ht_text, .int vt_length, .ref ht_pages, .int vt_acts, .int vt_next, .ref ht_row, .int vt_found, .ref ht_alike, .ref ht_table, .ref ht_keys, .ref ht_own, .long vt_seed, .ref ht_isKept, .ref ht_kept])), (ht_drops, .inl (cI, 4, .inl vt_drops)), (ht_tires, .inl (cI, 4, .inl vt_tires)), (ht_now, .inl (cI, 13, .inl vt_now)), (ht_pages, .inl (cI, 4, .inl zvt_pages_40)), (ht_own, .inl (cI, 4, .inl zvt_own_40))] := hD
        refine lv_istore (lv' := [(5, .int x5), (4, .int z4_40), (3, .int z3_40), (0, .ref ht), (1, .int a1), (2, .int a2)]) hx hb dX6_lost_137 hl (by decide) rfl (fun ls hl => ?_)
        refine lv_iload_n hx hb dX6_lost_139 rfl (lv_at hl 5 rfl) ?_
        refine lv_if_eq (tgt := 150) hx hb dX6_lost_140 (by decide) (fun c6 => ?_) (fun c6 => ?_)
        · replace hf := dg_t c6 hf
          refine lv_iload hx hb dX6_lost_150 (lv_at hl 1 rfl) ?_
          refine lv_iload hx hb dX6_lost_152 (lv_at hl 0 rfl) ?_
          obtain ⟨hnz7, hf⟩ := dg_nz hf
          refine lv_idiv hx hb dX6_lost_154 hnz7 ?_
          have he := Option.some.inj hf
          have hP9 := hP
          have hD9 := hD
          exact W.iret (v := (z4_40 / x5)) hx hb hr (fun t eth hW => ⟨⟨(z4_40 / x5), (zvt_pages_40, zvt_own_40), rfl, ⟨(congrArg Prod.fst he).symm, (congrArg Prod.snd he).symm⟩, by rw [eth]; exact hP9, va_K.moved hW.alike hK, hD9⟩, hS.F eth⟩) hS.2.2 dX6_lost_155
        · replace hf := dg_f c6 hf
          refine lv_iload_n hx hb dX6_lost_143 rfl (lv_at hl 2 rfl) ?_
          refine lv_iload hx hb dX6_lost_144 (lv_at hl 0 rfl) ?_
          obtain ⟨hnz8, hf⟩ := dg_nz hf
          refine lv_idiv hx hb dX6_lost_146 hnz8 ?_
          refine lv_goto (tgt := 155) hx hb dX6_lost_147 (by decide) ?_
          have he := Option.some.inj hf
          have hP9 := hP
          have hD9 := hD
          exact W.iret (v := (z3_40 / x5)) hx hb hr (fun t eth hW => ⟨⟨(z3_40 / x5), (zvt_pages_40, zvt_own_40), rfl, ⟨(congrArg Prod.fst he).symm, (congrArg Prod.snd he).symm⟩, by rw [eth]; exact hP9, va_K.moved hW.alike hK, hD9⟩, hS.F eth⟩) hS.2.2 dX6_lost_155
      have lp40 : ∀ (n40 : Nat) (y3_40 : Int32) (y4_40 : Int32) (y5_40 : Int32) (yvt_pages_40 : (Nat → Int32)) (yvt_own_40 : (Nat → Int32)) (H : Heap) (locs : List Loc) (ls : Array Slot), va_P (dC, dI) vwCl [(ht, .inr (5, [.int vt_clerks, .ref ht_drops, .ref ht_tires, .ref ht_now, .ref ht_told, .ref ht_text, .int vt_length, .ref ht_pages, .int vt_acts, .int vt_next, .ref ht_row, .int vt_found, .ref ht_alike, .ref ht_table, .ref ht_keys, .ref ht_own, .long vt_seed, .ref ht_isKept, .ref ht_kept])), (ht_drops, .inl (cI, 4, .inl vt_drops)), (ht_tires, .inl (cI, 4, .inl vt_tires)), (ht_now, .inl (cI, 13, .inl vt_now)), (ht_pages, .inl (cI, 4, .inl yvt_pages_40)), (ht_own, .inl (cI, 4, .inl yvt_own_40))] H → va_D A [(ht, .inr (5, [.int vt_clerks, .ref ht_drops, .ref ht_tires, .ref ht_now, .ref ht_told, .ref ht_text, .int vt_length, .ref ht_pages, .int vt_acts, .int vt_next, .ref ht_row, .int vt_found, .ref ht_alike, .ref ht_table, .ref ht_keys, .ref ht_own, .long vt_seed, .ref ht_isKept, .ref ht_kept])), (ht_drops, .inl (cI, 4, .inl vt_drops)), (ht_tires, .inl (cI, 4, .inl vt_tires)), (ht_now, .inl (cI, 13, .inl vt_now)), (ht_pages, .inl (cI, 4, .inl yvt_pages_40)), (ht_own, .inl (cI, 4, .inl yvt_own_40))] → va_S A s.heap H locs → lv_has ls 8 [(5, .int y5_40), (4, .int y4_40), (3, .int y3_40), (0, .ref ht), (1, .int a1), (2, .int a2)] → f_X6_lost_40 N a1 vt_clerks vt_drops vt_tires vt_now (fun z3_40 z4_40 z5_40 zvt_pages_40 zvt_own_40 => (f_X6_common N z3_40 z4_40).bind (fun x5 => if a2 = (0:Int32) then gN x5 (some ((z4_40 / x5), (zvt_pages_40, zvt_own_40))) else gN x5 (some ((z3_40 / x5), (zvt_pages_40, zvt_own_40))))) n40 y3_40 y4_40 y5_40 yvt_pages_40 yvt_own_40 = some R → W p l e (rm_X6_lost) s m ([.ref ht, .int a1, .int a2] : List Value).toArray below meth c H locs 0 0 (MQ below (q_X6_lost dC dI cI cJ cZ ht ht_drops ht_tires ht_now ht_told ht_text ht_pages ht_row ht_alike ht_table ht_keys ht_own ht_isKept ht_kept vt_clerks vt_length vt_acts vt_next vt_found vt_seed vt_drops vt_tires vt_now R A) ([.ref ht, .int a1, .int a2] : List Value).toArray s 0 0 A) (F0 m 40 ls []) := by
        intro n40
        induction n40 with
        | zero => intro y3_40 y4_40 y5_40 yvt_pages_40 yvt_own_40 H locs ls hP hD hS hl hf; rw [f_X6_lost_40] at hf; cases hf
        | succ n40 ih40 =>
          intro y3_40 y4_40 y5_40 yvt_pages_40 yvt_own_40 H locs ls hP hD hS hl hf
          rw [f_X6_lost_40] at hf
          refine lv_iload hx hb dX6_lost_40 (lv_at hl 0 rfl) ?_
          refine lv_iconst (v := 1) hx hb dX6_lost_42 (by decide) ?_
          refine lv_aload_n hx hb dX6_lost_43 rfl (lv_at hl 3 rfl) ?_
          refine va_get (D := (dC, dI)) (ci := 5) (v := .int vt_clerks) (C := RX6) (T := TX6) (N := 19) hx hb hts hinX6 hown hK hP 0 rfl rfl 0 (by decide) hw2 (fun _ h9 => h9) rfl dX6_lost_44 ?_
          refine lv_ishl hx hb dX6_lost_47 ?_
          refine lv_icmp_ge (tgt := 131) hx hb dX6_lost_48 (by decide) (fun c9 => ?_) (fun c9 => ?_)
          · replace hf := dg_t c9 hf
            exact ex40 y3_40 y4_40 y5_40 yvt_pages_40 yvt_own_40 _ _ _ hP hD hS (lv_sub hl [0, 1, 2, 3, 4, 5] rfl) hf
          · replace hf := dg_f c9 hf
            refine lv_iconst (v := 1) hx hb dX6_lost_51 (by decide) ?_
            refine lv_istore (lv' := [(6, .int (1:Int32)), (5, .int y5_40), (4, .int y4_40), (3, .int y3_40), (0, .ref ht), (1, .int a1), (2, .int a2)]) hx hb dX6_lost_52 hl (by decide) rfl (fun ls hl => ?_)
            refine lv_iconst (v := 0) hx hb dX6_lost_54 (by decide) ?_
            refine lv_istore (lv' := [(7, .int (0:Int32)), (6, .int (1:Int32)), (5, .int y5_40), (4, .int y4_40), (3, .int y3_40), (0, .ref ht), (1, .int a1), (2, .int a2)]) hx hb dX6_lost_55 hl (by decide) rfl (fun ls hl => ?_)
            have ex57 : ∀ (z6_57 : Int32) (z7_57 : Int32) (H : Heap) (locs : List Loc) (ls : Array Slot), va_P (dC, dI) vwCl [(ht, .inr (5, [.int vt_clerks, .ref ht_drops, .ref ht_tires, .ref ht_now, .ref ht_told, .ref ht_text, .int vt_length, .ref ht_pages, .int vt_acts, .int vt_next, .ref ht_row, .int vt_found, .ref ht_alike, .ref ht_table, .ref ht_keys, .ref ht_own, .long vt_seed, .ref ht_isKept, .ref ht_kept])), (ht_drops, .inl (cI, 4, .inl vt_drops)), (ht_tires, .inl (cI, 4, .inl vt_tires)), (ht_now, .inl (cI, 13, .inl vt_now)), (ht_pages, .inl (cI, 4, .inl yvt_pages_40)), (ht_own, .inl (cI, 4, .inl yvt_own_40))] H → va_D A [(ht, .inr (5, [.int vt_clerks, .ref ht_drops, .ref ht_tires, .ref ht_now, .ref ht_told, .ref ht_text, .int vt_length, .ref ht_pages, .int vt_acts, .int vt_next, .ref ht_row, .int vt_found, .ref ht_alike, .ref ht_table, .ref ht_keys, .ref ht_own, .long vt_seed, .ref ht_isKept, .ref ht_kept])), (ht_drops, .inl (cI, 4, .inl vt_drops)), (ht_tires, .inl (cI, 4, .inl vt_tires)), (ht_now, .inl (cI, 13, .inl vt_now)), (ht_pages, .inl (cI, 4, .inl yvt_pages_40)), (ht_own, .inl (cI, 4, .inl yvt_own_40))] → va_S A s.heap H locs → lv_has ls 8 [(7, .int z7_57), (6, .int z6_57), (5, .int y5_40), (4, .int y4_40), (3, .int y3_40), (0, .ref ht), (1, .int a1), (2, .int a2)] → (if z6_57 ≤ (0:Int32) then f_X6_lost_40 N a1 vt_clerks vt_drops vt_tires vt_now (fun z3_40 z4_40 z5_40 zvt_pages_40 zvt_own_40 => (f_X6_common N z3_40 z4_40).bind (fun x5 => if a2 = (0:Int32) then gN x5 (some ((z4_40 / x5), (zvt_pages_40, zvt_own_40))) else gN x5 (some ((z3_40 / x5), (zvt_pages_40, zvt_own_40))))) n40 (y3_40 + (0:Int32)) (y4_40 + z6_57) (y5_40 + (1:Int32)) yvt_pages_40 yvt_own_40 else (f_X6_tells N y5_40 vt_clerks vt_drops vt_tires vt_now yvt_pages_40 yvt_own_40).bind (fun x11 => if x11.1 = (0:Int32) then f_X6_lost_40 N a1 vt_clerks vt_drops vt_tires vt_now (fun z3_40 z4_40 z5_40 zvt_pages_40 zvt_own_40 => (f_X6_common N z3_40 z4_40).bind (fun x5 => if a2 = (0:Int32) then gN x5 (some ((z4_40 / x5), (zvt_pages_40, zvt_own_40))) else gN x5 (some ((z3_40 / x5), (zvt_pages_40, zvt_own_40))))) n40 (y3_40 + (0:Int32)) (y4_40 + z6_57) (y5_40 + (1:Int32)) x11.2.1 x11.2.2 else f_X6_lost_40 N a1 vt_clerks vt_drops vt_tires vt_now (fun z3_40 z4_40 z5_40 zvt_pages_40 zvt_own_40 => (f_X6_common N z3_40 z4_40).bind (fun x5 => if a2 = (0:Int32) then gN x5 (some ((z4_40 / x5), (zvt_pages_40, zvt_own_40))) else gN x5 (some ((z3_40 / x5), (zvt_pages_40, zvt_own_40))))) n40 (y3_40 + z6_57) (y4_40 + z6_57) (y5_40 + (1:Int32)) x11.2.1 x11.2.2)) = some R → W p l e (rm_X6_lost) s m ([.ref ht, .int a1, .int a2] : List Value).toArray below meth c H locs 0 0 (MQ below (q_X6_lost dC dI cI cJ cZ ht ht_drops ht_tires ht_now ht_told ht_text ht_pages ht_row ht_alike ht_table ht_keys ht_own ht_isKept ht_kept vt_clerks vt_length vt_acts vt_next vt_found vt_seed vt_drops vt_tires vt_now R A) ([.ref ht, .int a1, .int a2] : List Value).toArray s 0 0 A) (F0 m 95 ls []) := by
              intro z6_57 z7_57 H locs ls hP hD hS hl hf
              refine lv_iload hx hb dX6_lost_95 (lv_at hl 3 rfl) ?_
              refine lv_iload hx hb dX6_lost_97 (lv_at hl 1 rfl) ?_
              refine lv_iadd hx hb dX6_lost_99 ?_
              refine lv_istore (lv' := [(4, .int (y4_40 + z6_57)), (7, .int z7_57), (6, .int z6_57), (5, .int y5_40), (3, .int y3_40), (0, .ref ht), (1, .int a1), (2, .int a2)]) hx hb dX6_lost_100 hl (by decide) rfl (fun ls hl => ?_)
              refine lv_iload_n hx hb dX6_lost_102 rfl (lv_at hl 4 rfl) ?_
              refine lv_iload hx hb dX6_lost_103 (lv_at hl 2 rfl) ?_
              refine lv_if_le (tgt := 122) hx hb dX6_lost_105 (by decide) (fun c10 => ?_) (fun c10 => ?_)
              · replace hf := dg_t c10 hf
                refine lv_iconst (v := 0) hx hb dX6_lost_122 (by decide) ?_
                refine lv_iadd hx hb dX6_lost_123 ?_
                refine lv_istore_n (lv' := [(3, .int (y3_40 + (0:Int32))), (4, .int (y4_40 + z6_57)), (7, .int z7_57), (6, .int z6_57), (5, .int y5_40), (0, .ref ht), (1, .int a1), (2, .int a2)]) hx hb dX6_lost_124 rfl hl (by decide) rfl (fun ls hl => ?_)
                refine lv_iinc (v := (y5_40 + (1:Int32))) (lv' := [(5, .int (y5_40 + (1:Int32))), (3, .int (y3_40 + (0:Int32))), (4, .int (y4_40 + z6_57)), (7, .int z7_57), (6, .int z6_57), (0, .ref ht), (1, .int a1), (2, .int a2)]) hx hb dX6_lost_125 hl (k := 4) rfl (by first | rfl | decide) (by decide) rfl (fun ls hl => ?_)
                refine lv_goto (tgt := 40) hx hb dX6_lost_128 (by decide) ?_
                exact ih40 (y3_40 + (0:Int32)) (y4_40 + z6_57) (y5_40 + (1:Int32)) yvt_pages_40 yvt_own_40 _ _ _ hP hD hS (lv_sub hl [0, 2, 1, 5, 6, 7] rfl) hf
              · replace hf := dg_f c10 hf
                refine lv_aload_n hx hb dX6_lost_108 rfl (lv_at hl 5 rfl) ?_
                refine lv_iload hx hb dX6_lost_109 (lv_at hl 3 rfl) ?_
                obtain ⟨x11, hx11, hf⟩ := dg_bind hf
                have hPc : va_P (dC, dI) vwCl [(ht, .inr (5, [.int vt_clerks, .ref ht_drops, .ref ht_tires, .ref ht_now, .ref ht_told, .ref ht_text, .int vt_length, .ref ht_pages, .int vt_acts, .int vt_next, .ref ht_row, .int vt_found, .ref ht_alike, .ref ht_table, .ref ht_keys, .ref ht_own, .long vt_seed, .ref ht_isKept, .ref ht_kept])), (ht_drops, .inl (cI, 4, .inl vt_drops)), (ht_tires, .inl (cI, 4, .inl vt_tires)), (ht_now, .inl (cI, 13, .inl vt_now)), (ht_pages, .inl (cI, 4, .inl yvt_pages_40)), (ht_own, .inl (cI, 4, .inl yvt_own_40))] H := hP.sub [0, 1, 2, 3, 4, 5] rfl
                have hDc : va_D A [(ht, .inr (5, [.int vt_clerks, .ref ht_drops, .ref ht_tires, .ref ht_now, .ref ht_told, .ref ht_text, .int vt_length, .ref ht_pages, .int vt_acts, .int vt_next, .ref ht_row, .int vt_found, .ref ht_alike, .ref ht_table, .ref ht_keys, .ref ht_own, .long vt_seed, .ref ht_isKept, .ref ht_kept])), (ht_drops, .inl (cI, 4, .inl vt_drops)), (ht_tires, .inl (cI, 4, .inl vt_tires)), (ht_now, .inl (cI, 13, .inl vt_now)), (ht_pages, .inl (cI, 4, .inl yvt_pages_40)), (ht_own, .inl (cI, 4, .inl yvt_own_40))] := hD.sub [0, 1, 2, 3, 4, 5] (by decide) rfl
                have hFc := va_free (wc := [(ht, .inr (5, [.int vt_clerks, .ref ht_drops, .ref ht_tires, .ref ht_now, .ref ht_told, .ref ht_text, .int vt_length, .ref ht_pages, .int vt_acts, .int vt_next, .ref ht_row, .int vt_found, .ref ht_alike, .ref ht_table, .ref ht_keys, .ref ht_own, .long vt_seed, .ref ht_isKept, .ref ht_kept])), (ht_drops, .inl (cI, 4, .inl vt_drops)), (ht_tires, .inl (cI, 4, .inl vt_tires)), (ht_now, .inl (cI, 13, .inl vt_now)), (ht_pages, .inl (cI, 4, .inl yvt_pages_40)), (ht_own, .inl (cI, 4, .inl yvt_own_40))]) hD hS hA [0, 1, 2, 3, 4, 5] rfl
                refine va_calli (va_runV (As := [.int y5_40]) (rest := [.int y3_40]) ⟨hx, hb, hml, hown, hts⟩ (k_X6_tells l dC dI cI cJ cZ H.size ht ht_drops ht_tires ht_now ht_told ht_text ht_pages ht_row ht_alike ht_table ht_keys ht_own ht_isKept ht_kept y5_40 vt_clerks vt_length vt_acts vt_next vt_found vt_seed vt_drops vt_tires vt_now yvt_pages_40 yvt_own_40 N x11 hx11) (cwV 1 hts gX6_lost_X6_tells rfl rfl rfl hd_X6_tells ⟨Nat.le_of_ble_eq_true rfl, Nat.le_of_ble_eq_true rfl⟩) ⟨blind_pc, va_recv hK hPc (ci := 5) (q0 := 0) rfl rfl, pre_pc hPc hK hDc⟩ rfl rfl hl.1 rfl (lv_room (Nat.le_of_ble_eq_true rfl)) dX6_lost_111 ⟨Nat.zero_le _, Nat.zero_le _⟩) hS (fun q _ h => hFc q h) hFc (fun r u t H1 locs eth hvm hw hB hz1 hk1 hS => ?_)
                obtain ⟨hP1, hK1, hD1⟩ := hB
                rw [eth] at hP1
                obtain ⟨hw, hw2⟩ := hw
                subst hw; subst hw2
                obtain ⟨hP, hD⟩ := va_join (wr := []) (w1 := [(ht, .inr (5, [.int vt_clerks, .ref ht_drops, .ref ht_tires, .ref ht_now, .ref ht_told, .ref ht_text, .int vt_length, .ref ht_pages, .int vt_acts, .int vt_next, .ref ht_row, .int vt_found, .ref ht_alike, .ref ht_table, .ref ht_keys, .ref ht_own, .long vt_seed, .ref ht_isKept, .ref ht_kept])), (ht_drops, .inl (cI, 4, .inl vt_drops)), (ht_tires, .inl (cI, 4, .inl vt_tires)), (ht_now, .inl (cI, 13, .inl vt_now)), (ht_pages, .inl (cI, 4, .inl x11.2.1)), (ht_own, .inl (cI, 4, .inl x11.2.2))]) hP hD [0, 1, 2, 3, 4, 5] [] rfl rfl (by decide) (by decide) hk1 hFc hP1 hD1
                clear hP1 hK1 hD1 hPc hDc hFc hk1 hz1 hvm eth
                generalize H1 = H at hP hS ⊢
                have hP : va_P (dC, dI) vwCl [(ht, .inr (5, [.int vt_clerks, .ref ht_drops, .ref ht_tires, .ref ht_now, .ref ht_told, .ref ht_text, .int vt_length, .ref ht_pages, .int vt_acts, .int vt_next, .ref ht_row, .int vt_found, .ref ht_alike, .ref ht_table, .ref ht_keys, .ref ht_own, .long vt_seed, .ref ht_isKept, .ref ht_kept])), (ht_drops, .inl (cI, 4, .inl vt_drops)), (ht_tires, .inl (cI, 4, .inl vt_tires)), (ht_now, .inl (cI, 13, .inl vt_now)), (ht_pages, .inl (cI, 4, .inl x11.2.1)), (ht_own, .inl (cI, 4, .inl x11.2.2))] H := hP
                have hD : va_D A [(ht, .inr (5, [.int vt_clerks, .ref ht_drops, .ref ht_tires, .ref ht_now, .ref ht_told, .ref ht_text, .int vt_length, .ref ht_pages, .int vt_acts, .int vt_next, .ref ht_row, .int vt_found, .ref ht_alike, .ref ht_table, .ref ht_keys, .ref ht_own, .long vt_seed, .ref ht_isKept, .ref ht_kept])), (ht_drops, .inl (cI, 4, .inl vt_drops)), (ht_tires, .inl (cI, 4, .inl vt_tires)), (ht_now, .inl (cI, 13, .inl vt_now)), (ht_pages, .inl (cI, 4, .inl x11.2.1)), (ht_own, .inl (cI, 4, .inl x11.2.2))] := hD
                refine lv_if_eq (tgt := 122) hx hb dX6_lost_114 (by decide) (fun c12 => ?_) (fun c12 => ?_)
                · replace hf := dg_t c12 hf
                  refine lv_iconst (v := 0) hx hb dX6_lost_122 (by decide) ?_
                  refine lv_iadd hx hb dX6_lost_123 ?_
                  refine lv_istore_n (lv' := [(3, .int (y3_40 + (0:Int32))), (4, .int (y4_40 + z6_57)), (7, .int z7_57), (6, .int z6_57), (5, .int y5_40), (0, .ref ht), (1, .int a1), (2, .int a2)]) hx hb dX6_lost_124 rfl hl (by decide) rfl (fun ls hl => ?_)
                  refine lv_iinc (v := (y5_40 + (1:Int32))) (lv' := [(5, .int (y5_40 + (1:Int32))), (3, .int (y3_40 + (0:Int32))), (4, .int (y4_40 + z6_57)), (7, .int z7_57), (6, .int z6_57), (0, .ref ht), (1, .int a1), (2, .int a2)]) hx hb dX6_lost_125 hl (k := 4) rfl (by first | rfl | decide) (by decide) rfl (fun ls hl => ?_)
                  refine lv_goto (tgt := 40) hx hb dX6_lost_128 (by decide) ?_
                  exact ih40 (y3_40 + (0:Int32)) (y4_40 + z6_57) (y5_40 + (1:Int32)) x11.2.1 x11.2.2 _ _ _ hP hD hS (lv_sub hl [0, 2, 1, 5, 6, 7] rfl) hf
                · replace hf := dg_f c12 hf
                  refine lv_iload hx hb dX6_lost_117 (lv_at hl 2 rfl) ?_
                  refine lv_goto (tgt := 123) hx hb dX6_lost_119 (by decide) ?_
                  refine lv_iadd hx hb dX6_lost_123 ?_
                  refine lv_istore_n (lv' := [(3, .int (y3_40 + z6_57)), (4, .int (y4_40 + z6_57)), (7, .int z7_57), (6, .int z6_57), (5, .int y5_40), (0, .ref ht), (1, .int a1), (2, .int a2)]) hx hb dX6_lost_124 rfl hl (by decide) rfl (fun ls hl => ?_)
                  refine lv_iinc (v := (y5_40 + (1:Int32))) (lv' := [(5, .int (y5_40 + (1:Int32))), (3, .int (y3_40 + z6_57)), (4, .int (y4_40 + z6_57)), (7, .int z7_57), (6, .int z6_57), (0, .ref ht), (1, .int a1), (2, .int a2)]) hx hb dX6_lost_125 hl (k := 4) rfl (by first | rfl | decide) (by decide) rfl (fun ls hl => ?_)
                  refine lv_goto (tgt := 40) hx hb dX6_lost_128 (by decide) ?_
                  exact ih40 (y3_40 + z6_57) (y4_40 + z6_57) (y5_40 + (1:Int32)) x11.2.1 x11.2.2 _ _ _ hP hD hS (lv_sub hl [0, 2, 1, 5, 6, 7] rfl) hf
            have lp57 : ∀ (n57 : Nat) (y6_57 : Int32) (y7_57 : Int32) (H : Heap) (locs : List Loc) (ls : Array Slot), va_P (dC, dI) vwCl [(ht, .inr (5, [.int vt_clerks, .ref ht_drops, .ref ht_tires, .ref ht_now, .ref ht_told, .ref ht_text, .int vt_length, .ref ht_pages, .int vt_acts, .int vt_next, .ref ht_row, .int vt_found, .ref ht_alike, .ref ht_table, .ref ht_keys, .ref ht_own, .long vt_seed, .ref ht_isKept, .ref ht_kept])), (ht_drops, .inl (cI, 4, .inl vt_drops)), (ht_tires, .inl (cI, 4, .inl vt_tires)), (ht_now, .inl (cI, 13, .inl vt_now)), (ht_pages, .inl (cI, 4, .inl yvt_pages_40)), (ht_own, .inl (cI, 4, .inl yvt_own_40))] H → va_D A [(ht, .inr (5, [.int vt_clerks, .ref ht_drops, .ref ht_tires, .ref ht_now, .ref ht_told, .ref ht_text, .int vt_length, .ref ht_pages, .int vt_acts, .int vt_next, .ref ht_row, .int vt_found, .ref ht_alike, .ref ht_table, .ref ht_keys, .ref ht_own, .long vt_seed, .ref ht_isKept, .ref ht_kept])), (ht_drops, .inl (cI, 4, .inl vt_drops)), (ht_tires, .inl (cI, 4, .inl vt_tires)), (ht_now, .inl (cI, 13, .inl vt_now)), (ht_pages, .inl (cI, 4, .inl yvt_pages_40)), (ht_own, .inl (cI, 4, .inl yvt_own_40))] → va_S A s.heap H locs → lv_has ls 8 [(7, .int y7_57), (6, .int y6_57), (5, .int y5_40), (4, .int y4_40), (3, .int y3_40), (0, .ref ht), (1, .int a1), (2, .int a2)] → f_X6_lost_57 N a1 vt_clerks y5_40 (fun z6_57 z7_57 => if z6_57 ≤ (0:Int32) then f_X6_lost_40 N a1 vt_clerks vt_drops vt_tires vt_now (fun z3_40 z4_40 z5_40 zvt_pages_40 zvt_own_40 => (f_X6_common N z3_40 z4_40).bind (fun x5 => if a2 = (0:Int32) then gN x5 (some ((z4_40 / x5), (zvt_pages_40, zvt_own_40))) else gN x5 (some ((z3_40 / x5), (zvt_pages_40, zvt_own_40))))) n40 (y3_40 + (0:Int32)) (y4_40 + z6_57) (y5_40 + (1:Int32)) yvt_pages_40 yvt_own_40 else (f_X6_tells N y5_40 vt_clerks vt_drops vt_tires vt_now yvt_pages_40 yvt_own_40).bind (fun x11 => if x11.1 = (0:Int32) then f_X6_lost_40 N a1 vt_clerks vt_drops vt_tires vt_now (fun z3_40 z4_40 z5_40 zvt_pages_40 zvt_own_40 => (f_X6_common N z3_40 z4_40).bind (fun x5 => if a2 = (0:Int32) then gN x5 (some ((z4_40 / x5), (zvt_pages_40, zvt_own_40))) else gN x5 (some ((z3_40 / x5), (zvt_pages_40, zvt_own_40))))) n40 (y3_40 + (0:Int32)) (y4_40 + z6_57) (y5_40 + (1:Int32)) x11.2.1 x11.2.2 else f_X6_lost_40 N a1 vt_clerks vt_drops vt_tires vt_now (fun z3_40 z4_40 z5_40 zvt_pages_40 zvt_own_40 => (f_X6_common N z3_40 z4_40).bind (fun x5 => if a2 = (0:Int32) then gN x5 (some ((z4_40 / x5), (zvt_pages_40, zvt_own_40))) else gN x5 (some ((z3_40 / x5), (zvt_pages_40, zvt_own_40))))) n40 (y3_40 + z6_57) (y4_40 + z6_57) (y5_40 + (1:Int32)) x11.2.1 x11.2.2)) n57 y6_57 y7_57 = some R → W p l e (rm_X6_lost) s m ([.ref ht, .int a1, .int a2] : List Value).toArray below meth c H locs 0 0 (MQ below (q_X6_lost dC dI cI cJ cZ ht ht_drops ht_tires ht_now ht_told ht_text ht_pages ht_row ht_alike ht_table ht_keys ht_own ht_isKept ht_kept vt_clerks vt_length vt_acts vt_next vt_found vt_seed vt_drops vt_tires vt_now R A) ([.ref ht, .int a1, .int a2] : List Value).toArray s 0 0 A) (F0 m 57 ls []) := by
              intro n57
              induction n57 with
              | zero => intro y6_57 y7_57 H locs ls hP hD hS hl hf; rw [f_X6_lost_57] at hf; cases hf
              | succ n57 ih57 =>
                intro y6_57 y7_57 H locs ls hP hD hS hl hf
                rw [f_X6_lost_57] at hf
                refine lv_iload hx hb dX6_lost_57 (lv_at hl 0 rfl) ?_
                refine lv_aload_n hx hb dX6_lost_59 rfl (lv_at hl 5 rfl) ?_
                refine va_get (D := (dC, dI)) (ci := 5) (v := .int vt_clerks) (C := RX6) (T := TX6) (N := 19) hx hb hts hinX6 hown hK hP 0 rfl rfl 0 (by decide) hw2 (fun _ h9 => h9) rfl dX6_lost_60 ?_
                refine lv_icmp_ge (tgt := 95) hx hb dX6_lost_63 (by decide) (fun c13 => ?_) (fun c13 => ?_)
                · replace hf := dg_t c13 hf
                  exact ex57 y6_57 y7_57 _ _ _ hP hD hS (lv_sub hl [0, 1, 2, 3, 4, 5, 6, 7] rfl) hf
                · replace hf := dg_f c13 hf
                  refine lv_iload hx hb dX6_lost_66 (lv_at hl 1 rfl) ?_
                  refine lv_iload hx hb dX6_lost_68 (lv_at hl 2 rfl) ?_
                  refine lv_iload hx hb dX6_lost_70 (lv_at hl 0 rfl) ?_
                  obtain ⟨x14, hx14, hf⟩ := dg_bind hf
                  have hPc : va_P (dC, dI) vwCl [] H := hP.sub [] rfl
                  have hDc : va_D A [] := hD.sub [] (by decide) rfl
                  have hFc := va_free (wc := []) hD hS hA [] rfl
                  refine va_calli (va_runS (As := [.int y5_40, .int y7_57]) (rest := [.int y6_57]) ⟨hx, hb, hml, hown, hts⟩ (k_X6_has l dC dI cI cJ cZ H.size y5_40 y7_57 N x14 hx14) (va_cwS 2 hts gX6_lost_X6_has rfl rfl rfl hd_X6_has ⟨Nat.le_of_ble_eq_true rfl, Nat.le_of_ble_eq_true rfl⟩) ⟨blind_pc, pre_pc hPc hK hDc⟩ rfl rfl hl.1 rfl (lv_room (Nat.le_of_ble_eq_true rfl)) dX6_lost_72 ⟨Nat.zero_le _, Nat.zero_le _⟩) hS (fun q _ h => hFc q h) hFc (fun r u t H1 locs eth hvm hw hB hz1 hk1 hS => ?_)
                  obtain ⟨hP1, hK1, hD1⟩ := hB
                  rw [eth] at hP1
                  subst hw
                  obtain ⟨hP, hD⟩ := va_join (wr := [(ht, .inr (5, [.int vt_clerks, .ref ht_drops, .ref ht_tires, .ref ht_now, .ref ht_told, .ref ht_text, .int vt_length, .ref ht_pages, .int vt_acts, .int vt_next, .ref ht_row, .int vt_found, .ref ht_alike, .ref ht_table, .ref ht_keys, .ref ht_own, .long vt_seed, .ref ht_isKept, .ref ht_kept])), (ht_drops, .inl (cI, 4, .inl vt_drops)), (ht_tires, .inl (cI, 4, .inl vt_tires)), (ht_now, .inl (cI, 13, .inl vt_now)), (ht_pages, .inl (cI, 4, .inl yvt_pages_40)), (ht_own, .inl (cI, 4, .inl yvt_own_40))]) (w1 := []) hP hD [] [0, 1, 2, 3, 4, 5] rfl rfl (by decide) (by decide) hk1 hFc hP1 hD1
                  clear hP1 hK1 hD1 hPc hDc hFc hk1 hz1 hvm eth
                  generalize H1 = H at hP hS ⊢
                  have hP : va_P (dC, dI) vwCl [(ht, .inr (5, [.int vt_clerks, .ref ht_drops, .ref ht_tires, .ref ht_now, .ref ht_told, .ref ht_text, .int vt_length, .ref ht_pages, .int vt_acts, .int vt_next, .ref ht_row, .int vt_found, .ref ht_alike, .ref ht_table, .ref ht_keys, .ref ht_own, .long vt_seed, .ref ht_isKept, .ref ht_kept])), (ht_drops, .inl (cI, 4, .inl vt_drops)), (ht_tires, .inl (cI, 4, .inl vt_tires)), (ht_now, .inl (cI, 13, .inl vt_now)), (ht_pages, .inl (cI, 4, .inl yvt_pages_40)), (ht_own, .inl (cI, 4, .inl yvt_own_40))] H := hP
                  have hD : va_D A [(ht, .inr (5, [.int vt_clerks, .ref ht_drops, .ref ht_tires, .ref ht_now, .ref ht_told, .ref ht_text, .int vt_length, .ref ht_pages, .int vt_acts, .int vt_next, .ref ht_row, .int vt_found, .ref ht_alike, .ref ht_table, .ref ht_keys, .ref ht_own, .long vt_seed, .ref ht_isKept, .ref ht_kept])), (ht_drops, .inl (cI, 4, .inl vt_drops)), (ht_tires, .inl (cI, 4, .inl vt_tires)), (ht_now, .inl (cI, 13, .inl vt_now)), (ht_pages, .inl (cI, 4, .inl yvt_pages_40)), (ht_own, .inl (cI, 4, .inl yvt_own_40))] := hD
                  refine lv_if_eq (tgt := 85) hx hb dX6_lost_75 (by decide) (fun c15 => ?_) (fun c15 => ?_)
                  · replace hf := dg_t c15 hf
                    refine lv_iload_n hx hb dX6_lost_85 rfl (lv_at hl 6 rfl) ?_
                    refine lv_imul hx hb dX6_lost_86 ?_
                    refine lv_istore (lv' := [(6, .int (y6_57 * a1)), (7, .int y7_57), (5, .int y5_40), (4, .int y4_40), (3, .int y3_40), (0, .ref ht), (1, .int a1), (2, .int a2)]) hx hb dX6_lost_87 hl (by decide) rfl (fun ls hl => ?_)
                    refine lv_iinc (v := (y7_57 + (1:Int32))) (lv' := [(7, .int (y7_57 + (1:Int32))), (6, .int (y6_57 * a1)), (5, .int y5_40), (4, .int y4_40), (3, .int y3_40), (0, .ref ht), (1, .int a1), (2, .int a2)]) hx hb dX6_lost_89 hl (k := 1) rfl (by first | rfl | decide) (by decide) rfl (fun ls hl => ?_)
                    refine lv_goto (tgt := 57) hx hb dX6_lost_92 (by decide) ?_
                    exact ih57 (y6_57 * a1) (y7_57 + (1:Int32)) _ _ _ hP hD hS (lv_sub hl [0, 1, 2, 3, 4, 5, 6, 7] rfl) hf
                  · replace hf := dg_f c15 hf
                    refine lv_bipush (v := 10) hx hb dX6_lost_78 (by decide) ?_
                    refine lv_iload_n hx hb dX6_lost_80 rfl (lv_at hl 6 rfl) ?_
                    refine lv_isub hx hb dX6_lost_81 ?_
                    refine lv_goto (tgt := 86) hx hb dX6_lost_82 (by decide) ?_
                    refine lv_imul hx hb dX6_lost_86 ?_
                    refine lv_istore (lv' := [(6, .int (y6_57 * ((10:Int32) - a1))), (7, .int y7_57), (5, .int y5_40), (4, .int y4_40), (3, .int y3_40), (0, .ref ht), (1, .int a1), (2, .int a2)]) hx hb dX6_lost_87 hl (by decide) rfl (fun ls hl => ?_)
                    refine lv_iinc (v := (y7_57 + (1:Int32))) (lv' := [(7, .int (y7_57 + (1:Int32))), (6, .int (y6_57 * ((10:Int32) - a1))), (5, .int y5_40), (4, .int y4_40), (3, .int y3_40), (0, .ref ht), (1, .int a1), (2, .int a2)]) hx hb dX6_lost_89 hl (k := 1) rfl (by first | rfl | decide) (by decide) rfl (fun ls hl => ?_)
                    refine lv_goto (tgt := 57) hx hb dX6_lost_92 (by decide) ?_
                    exact ih57 (y6_57 * ((10:Int32) - a1)) (y7_57 + (1:Int32)) _ _ _ hP hD hS (lv_sub hl [0, 1, 2, 3, 4, 5, 6, 7] rfl) hf
            exact lp57 N (1:Int32) (0:Int32) _ _ _ hP hD hS hl hf
      exact lp40 N (0:Int32) (0:Int32) (0:Int32) vt_pages vt_own _ _ _ hP hD hS hl hf
    · replace hf := dg_t c4 hf
      refine lv_bipush (v := -3) hx hb dX6_lost_29 (by decide) ?_
      have he := Option.some.inj hf
      have hP9 := hP
      have hD9 := hD
      exact W.iret (v := (-3:Int32)) hx hb hr (fun t eth hW => ⟨⟨(-3:Int32), (vt_pages, vt_own), rfl, ⟨(congrArg Prod.fst he).symm, (congrArg Prod.snd he).symm⟩, by rw [eth]; exact hP9, va_K.moved hW.alike hK, hD9⟩, hS.F eth⟩) hS.2.2 dX6_lost_31
  · replace hf := dg_t c2 hf
    refine lv_bipush (v := -2) hx hb dX6_lost_12 (by decide) ?_
    have he := Option.some.inj hf
    have hP9 := hP
    have hD9 := hD
    exact W.iret (v := (-2:Int32)) hx hb hr (fun t eth hW => ⟨⟨(-2:Int32), (vt_pages, vt_own), rfl, ⟨(congrArg Prod.fst he).symm, (congrArg Prod.snd he).symm⟩, by rw [eth]; exact hP9, va_K.moved hW.alike hK, hD9⟩, hS.F eth⟩) hS.2.2 dX6_lost_14
theorem hd_X6_seed : yX6_seed.cls = RX6 ∧ yX6_seed.cls ≠ "java/lang/invoke/MethodHandle" ∧ yX6_seed.cls ≠ "java/lang/invoke/VarHandle" ∧ (parseMethodDescriptor yX6_seed.desc).map (fun d => d.parameters.length) = some 1 := by decide +kernel
abbrev rm_X6_seed : Room := { frames := 0, cells := 0, slots := 0, locals := 0 }
abbrev q_X6_seed (dC : Nat → ClassId) (dI : Nat → Nat → Nat) (cI cJ cZ : ClassId) (ht ht_drops ht_tires ht_now ht_told ht_text ht_pages ht_row ht_alike ht_table ht_keys ht_own ht_isKept ht_kept : Nat) (vt_clerks : Int32) (vt_length : Int32) (vt_acts : Int32) (vt_next : Int32) (vt_found : Int32) (R : Int64 × Int64) (A : Nat → Prop) : Array Value → State → Outcome → State → Prop := va_Ql (fun (r : Int64) (u : Int64) => R.1 = r ∧ R.2 = u) (fun (u : Int64) (t : State) => va_P (dC, dI) vwCl [(ht, .inr (5, [.int vt_clerks, .ref ht_drops, .ref ht_tires, .ref ht_now, .ref ht_told, .ref ht_text, .int vt_length, .ref ht_pages, .int vt_acts, .int vt_next, .ref ht_row, .int vt_found, .ref ht_alike, .ref ht_table, .ref ht_keys, .ref ht_own, .long u, .ref ht_isKept, .ref ht_kept]))] t.heap ∧ va_K (dC, dI) vwCl [(cI, .int), (cJ, .long), (cZ, .boolean)] t ∧ va_D A [(ht, .inr (5, [.int vt_clerks, .ref ht_drops, .ref ht_tires, .ref ht_now, .ref ht_told, .ref ht_text, .int vt_length, .ref ht_pages, .int vt_acts, .int vt_next, .ref ht_row, .int vt_found, .ref ht_alike, .ref ht_table, .ref ht_keys, .ref ht_own, .long u, .ref ht_isKept, .ref ht_kept]))]) A
set_option maxHeartbeats 4000000 in
set_option maxRecDepth 100000 in
theorem k_X6_seed (l : Launch) (dC : Nat → ClassId) (dI : Nat → Nat → Nat) (cI cJ cZ : ClassId) (sz : Nat) (ht ht_drops ht_tires ht_now ht_told ht_text ht_pages ht_row ht_alike ht_table ht_keys ht_own ht_isKept ht_kept : Nat) (a1 : Int64) (vt_clerks : Int32) (vt_length : Int32) (vt_acts : Int32) (vt_next : Int32) (vt_found : Int32) (vt_seed : Int64) (N : Nat) (R : Int64 × Int64) (hf : f_X6_seed N a1 vt_seed = some R) : Met l yX6_seed wsX6_seed (rm_X6_seed) (va_Pc [.ref ht, .long a1] (fun U => U.heap.size = sz ∧ va_P (dC, dI) vwCl [(ht, .inr (5, [.int vt_clerks, .ref ht_drops, .ref ht_tires, .ref ht_now, .ref ht_told, .ref ht_text, .int vt_length, .ref ht_pages, .int vt_acts, .int vt_next, .ref ht_row, .int vt_found, .ref ht_alike, .ref ht_table, .ref ht_keys, .ref ht_own, .long vt_seed, .ref ht_isKept, .ref ht_kept]))] U.heap ∧ va_K (dC, dI) vwCl [(cI, .int), (cJ, .long), (cZ, .boolean)] U ∧ va_D (fun _ => True) [(ht, .inr (5, [.int vt_clerks, .ref ht_drops, .ref ht_tires, .ref ht_now, .ref ht_told, .ref ht_text, .int vt_length, .ref ht_pages, .int vt_acts, .int vt_next, .ref ht_row, .int vt_found, .ref ht_alike, .ref ht_table, .ref ht_keys, .ref ht_own, .long vt_seed, .ref ht_isKept, .ref ht_kept]))])) (q_X6_seed dC dI cI cJ cZ ht ht_drops ht_tires ht_now ht_told ht_text ht_pages ht_row ht_alike ht_table ht_keys ht_own ht_isKept ht_kept vt_clerks vt_length vt_acts vt_next vt_found R (va_A [(ht, .inr (5, [.int vt_clerks, .ref ht_drops, .ref ht_tires, .ref ht_now, .ref ht_told, .ref ht_text, .int vt_length, .ref ht_pages, .int vt_acts, .int vt_next, .ref ht_row, .int vt_found, .ref ht_alike, .ref ht_table, .ref ht_keys, .ref ht_own, .long vt_seed, .ref ht_isKept, .ref ht_kept]))] sz)) 0 0 (va_A [(ht, .inr (5, [.int vt_clerks, .ref ht_drops, .ref ht_tires, .ref ht_now, .ref ht_told, .ref ht_text, .int vt_length, .ref ht_pages, .int vt_acts, .int vt_next, .ref ht_row, .int vt_found, .ref ht_alike, .ref ht_table, .ref ht_keys, .ref ht_own, .long vt_seed, .ref ht_isKept, .ref ht_kept]))] sz) := by
  refine Met.ofW (cc := cX6_seed) (maxL := 5) (ret := (some .long)) (by decide) rfl ?_
  intro p e s m args below meth c s₁ B hml hv
  obtain ⟨rfl, hsz, hP, hK, hD0⟩ := hv
  have hx := B.exec
  have hb := B.bytes
  have hr := B.returns
  have hts := atoms_spec (ws := wsX6_seed) B.pre
  have hown : s.vm.findClass RX6 = some m.cls := findClass_of_methodNamed B.named
  have hlocks := B.notSynchronized
  clear B
  subst hsz
  have hw0 := hts (.fieldLink RX6 184 "ShorthandCourtModel" "seed" "J") (by decide +kernel)
  have hinX6 : ∀ w ∈ u_ws RX6 TX6 19, w ∈ wsX6_seed := by decide +kernel
  have hD := hD0.self (sz := s.heap.size)
  clear hD0
  generalize hAe : va_A [(ht, .inr (5, [.int vt_clerks, .ref ht_drops, .ref ht_tires, .ref ht_now, .ref ht_told, .ref ht_text, .int vt_length, .ref ht_pages, .int vt_acts, .int vt_next, .ref ht_row, .int vt_found, .ref ht_alike, .ref ht_table, .ref ht_keys, .ref ht_own, .long vt_seed, .ref ht_isKept, .ref ht_kept]))] s.heap.size = A at hD ⊢
  have hA : ∀ q : Nat, s.heap.size ≤ q → A q := fun q h => by rw [← hAe]; exact Or.inr h
  clear hAe
  have hS : va_S A s.heap s.heap [] := va_S.rf
  have hl := lv_entry ([.ref ht, .long a1]) (n := 5) (Nat.le_of_ble_eq_true rfl)
  rw [lg_entry_eq]
  generalize (lg_sl ([.ref ht, .long a1]) ++ List.replicate (5 - (lg_sl ([.ref ht, .long a1])).length) Slot.unset).toArray = ls at hl ⊢
  have hl : lv_has ls 5 [(0, .ref ht), (1, .long a1)] := hl
  unfold f_X6_seed at hf
  refine lv_aload_n hx hb dX6_seed_0 rfl (lv_at hl 0 rfl) ?_
  refine va_get (D := (dC, dI)) (ci := 5) (v := .long vt_seed) (C := RX6) (T := TX6) (N := 19) hx hb hts hinX6 hown hK hP 0 rfl rfl 16 (by decide) hw0 (fun _ h9 => h9) rfl dX6_seed_1 ?_
  refine lv_lstore_n (lv' := [(3, .long vt_seed), (0, .ref ht), (1, .long a1)]) hx hb dX6_seed_4 rfl hl (by decide) rfl (fun ls hl => ?_)
  refine lv_aload_n hx hb dX6_seed_5 rfl (lv_at hl 1 rfl) ?_
  refine lv_lload_n hx hb dX6_seed_6 rfl (lv_at hl 2 rfl) ?_
  refine va_put (D := (dC, dI)) (ci := 5) (v := .long a1) (ty := .long) (C := RX6) (T := TX6) (N := 19) hx hb hts hinX6 tyX6 tyX6_ok nmX6 hown hK hP hD hS 0 rfl rfl 16 (by decide) hw0 (fun _ h9 => h9) rfl (by decide +kernel) rfl rfl (Nat.le_of_ble_eq_true rfl) dX6_seed_7 (fun H locs hP hD hS => ?_)
  have hP : va_P (dC, dI) vwCl [(ht, .inr (5, [.int vt_clerks, .ref ht_drops, .ref ht_tires, .ref ht_now, .ref ht_told, .ref ht_text, .int vt_length, .ref ht_pages, .int vt_acts, .int vt_next, .ref ht_row, .int vt_found, .ref ht_alike, .ref ht_table, .ref ht_keys, .ref ht_own, .long a1, .ref ht_isKept, .ref ht_kept]))] H := hP
  have hD : va_D A [(ht, .inr (5, [.int vt_clerks, .ref ht_drops, .ref ht_tires, .ref ht_now, .ref ht_told, .ref ht_text, .int vt_length, .ref ht_pages, .int vt_acts, .int vt_next, .ref ht_row, .int vt_found, .ref ht_alike, .ref ht_table, .ref ht_keys, .ref ht_own, .long a1, .ref ht_isKept, .ref ht_kept]))] := hD
  refine lv_lload_n hx hb dX6_seed_10 rfl (lv_at hl 0 rfl) ?_
  have he := Option.some.inj hf
  have hP9 := hP
  have hD9 := hD
  exact W.lret (v := vt_seed) hx hb hr (fun t eth hW => ⟨⟨vt_seed, a1, rfl, ⟨(congrArg Prod.fst he).symm, (congrArg Prod.snd he).symm⟩, by rw [eth]; exact hP9, va_K.moved hW.alike hK, hD9⟩, hS.F eth⟩) hS.2.2 dX6_seed_11
theorem hd_X6_allWords : yX6_allWords.cls = RX6 ∧ yX6_allWords.cls ≠ "java/lang/invoke/MethodHandle" ∧ yX6_allWords.cls ≠ "java/lang/invoke/VarHandle" ∧ (parseMethodDescriptor yX6_allWords.desc).map (fun d => d.parameters.length) = some 0 := by decide +kernel
abbrev rm_X6_allWords : Room := { frames := 1, cells := 0, slots := 0, locals := 20 }
abbrev q_X6_allWords (dC : Nat → ClassId) (dI : Nat → Nat → Nat) (cI cJ cZ : ClassId) (ht ht_drops ht_tires ht_now ht_told ht_text ht_pages ht_row ht_alike ht_table ht_keys ht_own ht_isKept ht_kept : Nat) (vt_clerks : Int32) (vt_length : Int32) (vt_acts : Int32) (vt_next : Int32) (vt_found : Int32) (vt_seed : Int64) (vt_pages : Nat → Int32) (R : Int32) (A : Nat → Prop) : Array Value → State → Outcome → State → Prop := va_Qi (fun (r : Int32) (_ : Unit) => R = r) (fun (u : Unit) (t : State) => va_P (dC, dI) vwCl [(ht, .inr (5, [.int vt_clerks, .ref ht_drops, .ref ht_tires, .ref ht_now, .ref ht_told, .ref ht_text, .int vt_length, .ref ht_pages, .int vt_acts, .int vt_next, .ref ht_row, .int vt_found, .ref ht_alike, .ref ht_table, .ref ht_keys, .ref ht_own, .long vt_seed, .ref ht_isKept, .ref ht_kept])), (ht_pages, .inl (cI, 4, .inl vt_pages))] t.heap ∧ va_K (dC, dI) vwCl [(cI, .int), (cJ, .long), (cZ, .boolean)] t ∧ va_D A [(ht, .inr (5, [.int vt_clerks, .ref ht_drops, .ref ht_tires, .ref ht_now, .ref ht_told, .ref ht_text, .int vt_length, .ref ht_pages, .int vt_acts, .int vt_next, .ref ht_row, .int vt_found, .ref ht_alike, .ref ht_table, .ref ht_keys, .ref ht_own, .long vt_seed, .ref ht_isKept, .ref ht_kept])), (ht_pages, .inl (cI, 4, .inl vt_pages))]) A
set_option maxHeartbeats 4000000 in
set_option maxRecDepth 100000 in
theorem k_X6_allWords (l : Launch) (dC : Nat → ClassId) (dI : Nat → Nat → Nat) (cI cJ cZ : ClassId) (sz : Nat) (ht ht_drops ht_tires ht_now ht_told ht_text ht_pages ht_row ht_alike ht_table ht_keys ht_own ht_isKept ht_kept : Nat) (vt_clerks : Int32) (vt_length : Int32) (vt_acts : Int32) (vt_next : Int32) (vt_found : Int32) (vt_seed : Int64) (vt_pages : Nat → Int32) (N : Nat) (R : Int32) (hf : f_X6_allWords N vt_clerks vt_pages = some R) : Met l yX6_allWords wsX6_allWords (rm_X6_allWords) (va_Pc [.ref ht] (fun U => U.heap.size = sz ∧ va_P (dC, dI) vwCl [(ht, .inr (5, [.int vt_clerks, .ref ht_drops, .ref ht_tires, .ref ht_now, .ref ht_told, .ref ht_text, .int vt_length, .ref ht_pages, .int vt_acts, .int vt_next, .ref ht_row, .int vt_found, .ref ht_alike, .ref ht_table, .ref ht_keys, .ref ht_own, .long vt_seed, .ref ht_isKept, .ref ht_kept])), (ht_pages, .inl (cI, 4, .inl vt_pages))] U.heap ∧ va_K (dC, dI) vwCl [(cI, .int), (cJ, .long), (cZ, .boolean)] U ∧ va_D (fun _ => True) [(ht, .inr (5, [.int vt_clerks, .ref ht_drops, .ref ht_tires, .ref ht_now, .ref ht_told, .ref ht_text, .int vt_length, .ref ht_pages, .int vt_acts, .int vt_next, .ref ht_row, .int vt_found, .ref ht_alike, .ref ht_table, .ref ht_keys, .ref ht_own, .long vt_seed, .ref ht_isKept, .ref ht_kept])), (ht_pages, .inl (cI, 4, .inl vt_pages))])) (q_X6_allWords dC dI cI cJ cZ ht ht_drops ht_tires ht_now ht_told ht_text ht_pages ht_row ht_alike ht_table ht_keys ht_own ht_isKept ht_kept vt_clerks vt_length vt_acts vt_next vt_found vt_seed vt_pages R (va_A [(ht, .inr (5, [.int vt_clerks, .ref ht_drops, .ref ht_tires, .ref ht_now, .ref ht_told, .ref ht_text, .int vt_length, .ref ht_pages, .int vt_acts, .int vt_next, .ref ht_row, .int vt_found, .ref ht_alike, .ref ht_table, .ref ht_keys, .ref ht_own, .long vt_seed, .ref ht_isKept, .ref ht_kept])), (ht_pages, .inl (cI, 4, .inl vt_pages))] sz)) 0 0 (va_A [(ht, .inr (5, [.int vt_clerks, .ref ht_drops, .ref ht_tires, .ref ht_now, .ref ht_told, .ref ht_text, .int vt_length, .ref ht_pages, .int vt_acts, .int vt_next, .ref ht_row, .int vt_found, .ref ht_alike, .ref ht_table, .ref ht_keys, .ref ht_own, .long vt_seed, .ref ht_isKept, .ref ht_kept])), (ht_pages, .inl (cI, 4, .inl vt_pages))] sz) := by
  refine Met.ofW (cc := cX6_allWords) (maxL := 3) (ret := (some .int)) (by decide) rfl ?_
  intro p e s m args below meth c s₁ B hml hv
  obtain ⟨rfl, hsz, hP, hK, hD0⟩ := hv
  have hx := B.exec
  have hb := B.bytes
  have hr := B.returns
  have hts := atoms_spec (ws := wsX6_allWords) B.pre
  have hown : s.vm.findClass RX6 = some m.cls := findClass_of_methodNamed B.named
  have hlocks := B.notSynchronized
  clear B
  subst hsz
  have hw0 := hts (.fieldLink RX6 79 "ShorthandCourtModel" "clerks" "I") (by decide +kernel)
  have hw1 := hts (.fieldLink RX6 25 "ShorthandCourtModel" "pages" "[I") (by decide +kernel)
  have hinX6 : ∀ w ∈ u_ws RX6 TX6 19, w ∈ wsX6_allWords := by decide +kernel
  have hD := hD0.self (sz := s.heap.size)
  clear hD0
  generalize hAe : va_A [(ht, .inr (5, [.int vt_clerks, .ref ht_drops, .ref ht_tires, .ref ht_now, .ref ht_told, .ref ht_text, .int vt_length, .ref ht_pages, .int vt_acts, .int vt_next, .ref ht_row, .int vt_found, .ref ht_alike, .ref ht_table, .ref ht_keys, .ref ht_own, .long vt_seed, .ref ht_isKept, .ref ht_kept])), (ht_pages, .inl (cI, 4, .inl vt_pages))] s.heap.size = A at hD ⊢
  have hA : ∀ q : Nat, s.heap.size ≤ q → A q := fun q h => by rw [← hAe]; exact Or.inr h
  clear hAe
  have hS : va_S A s.heap s.heap [] := va_S.rf
  have hl := lv_entry ([.ref ht]) (n := 3) (Nat.le_of_ble_eq_true rfl)
  rw [lg_entry_eq]
  generalize (lg_sl ([.ref ht]) ++ List.replicate (3 - (lg_sl ([.ref ht])).length) Slot.unset).toArray = ls at hl ⊢
  have hl : lv_has ls 3 [(0, .ref ht)] := hl
  unfold f_X6_allWords at hf
  refine lv_iconst (v := 0) hx hb dX6_allWords_0 (by decide) ?_
  refine lv_istore_n (lv' := [(1, .int (0:Int32)), (0, .ref ht)]) hx hb dX6_allWords_1 rfl hl (by decide) rfl (fun ls hl => ?_)
  refine lv_iconst (v := 0) hx hb dX6_allWords_2 (by decide) ?_
  refine lv_istore_n (lv' := [(2, .int (0:Int32)), (1, .int (0:Int32)), (0, .ref ht)]) hx hb dX6_allWords_3 rfl hl (by decide) rfl (fun ls hl => ?_)
  have ex4 : ∀ (z1_4 : Int32) (z2_4 : Int32) (H : Heap) (locs : List Loc) (ls : Array Slot), va_P (dC, dI) vwCl [(ht, .inr (5, [.int vt_clerks, .ref ht_drops, .ref ht_tires, .ref ht_now, .ref ht_told, .ref ht_text, .int vt_length, .ref ht_pages, .int vt_acts, .int vt_next, .ref ht_row, .int vt_found, .ref ht_alike, .ref ht_table, .ref ht_keys, .ref ht_own, .long vt_seed, .ref ht_isKept, .ref ht_kept])), (ht_pages, .inl (cI, 4, .inl vt_pages))] H → va_D A [(ht, .inr (5, [.int vt_clerks, .ref ht_drops, .ref ht_tires, .ref ht_now, .ref ht_told, .ref ht_text, .int vt_length, .ref ht_pages, .int vt_acts, .int vt_next, .ref ht_row, .int vt_found, .ref ht_alike, .ref ht_table, .ref ht_keys, .ref ht_own, .long vt_seed, .ref ht_isKept, .ref ht_kept])), (ht_pages, .inl (cI, 4, .inl vt_pages))] → va_S A s.heap H locs → lv_has ls 3 [(2, .int z2_4), (1, .int z1_4), (0, .ref ht)] → (some z1_4) = some R → W p l e (rm_X6_allWords) s m ([.ref ht] : List Value).toArray below meth c H locs 0 0 (MQ below (q_X6_allWords dC dI cI cJ cZ ht ht_drops ht_tires ht_now ht_told ht_text ht_pages ht_row ht_alike ht_table ht_keys ht_own ht_isKept ht_kept vt_clerks vt_length vt_acts vt_next vt_found vt_seed vt_pages R A) ([.ref ht] : List Value).toArray s 0 0 A) (F0 m 30 ls []) := by
    intro z1_4 z2_4 H locs ls hP hD hS hl hf
    refine lv_iload_n hx hb dX6_allWords_30 rfl (lv_at hl 1 rfl) ?_
    have he := Option.some.inj hf
    have hP9 := hP
    have hD9 := hD
    exact W.iret (v := z1_4) hx hb hr (fun t eth hW => ⟨⟨z1_4, (), rfl, he.symm, by rw [eth]; exact hP9, va_K.moved hW.alike hK, hD9⟩, hS.F eth⟩) hS.2.2 dX6_allWords_31
  have lp4 : ∀ (n4 : Nat) (y1_4 : Int32) (y2_4 : Int32) (H : Heap) (locs : List Loc) (ls : Array Slot), va_P (dC, dI) vwCl [(ht, .inr (5, [.int vt_clerks, .ref ht_drops, .ref ht_tires, .ref ht_now, .ref ht_told, .ref ht_text, .int vt_length, .ref ht_pages, .int vt_acts, .int vt_next, .ref ht_row, .int vt_found, .ref ht_alike, .ref ht_table, .ref ht_keys, .ref ht_own, .long vt_seed, .ref ht_isKept, .ref ht_kept])), (ht_pages, .inl (cI, 4, .inl vt_pages))] H → va_D A [(ht, .inr (5, [.int vt_clerks, .ref ht_drops, .ref ht_tires, .ref ht_now, .ref ht_told, .ref ht_text, .int vt_length, .ref ht_pages, .int vt_acts, .int vt_next, .ref ht_row, .int vt_found, .ref ht_alike, .ref ht_table, .ref ht_keys, .ref ht_own, .long vt_seed, .ref ht_isKept, .ref ht_kept])), (ht_pages, .inl (cI, 4, .inl vt_pages))] → va_S A s.heap H locs → lv_has ls 3 [(2, .int y2_4), (1, .int y1_4), (0, .ref ht)] → f_X6_allWords_4 N vt_clerks vt_pages (fun z1_4 z2_4 => some z1_4) n4 y1_4 y2_4 = some R → W p l e (rm_X6_allWords) s m ([.ref ht] : List Value).toArray below meth c H locs 0 0 (MQ below (q_X6_allWords dC dI cI cJ cZ ht ht_drops ht_tires ht_now ht_told ht_text ht_pages ht_row ht_alike ht_table ht_keys ht_own ht_isKept ht_kept vt_clerks vt_length vt_acts vt_next vt_found vt_seed vt_pages R A) ([.ref ht] : List Value).toArray s 0 0 A) (F0 m 4 ls []) := by
    intro n4
    induction n4 with
    | zero => intro y1_4 y2_4 H locs ls hP hD hS hl hf; rw [f_X6_allWords_4] at hf; cases hf
    | succ n4 ih4 =>
      intro y1_4 y2_4 H locs ls hP hD hS hl hf
      rw [f_X6_allWords_4] at hf
      refine lv_iload_n hx hb dX6_allWords_4 rfl (lv_at hl 0 rfl) ?_
      refine lv_aload_n hx hb dX6_allWords_5 rfl (lv_at hl 2 rfl) ?_
      refine va_get (D := (dC, dI)) (ci := 5) (v := .int vt_clerks) (C := RX6) (T := TX6) (N := 19) hx hb hts hinX6 hown hK hP 0 rfl rfl 0 (by decide) hw0 (fun _ h9 => h9) rfl dX6_allWords_6 ?_
      refine lv_icmp_ge (tgt := 30) hx hb dX6_allWords_9 (by decide) (fun c1 => ?_) (fun c1 => ?_)
      · replace hf := dg_t c1 hf
        exact ex4 y1_4 y2_4 _ _ _ hP hD hS (lv_sub hl [0, 1, 2] rfl) hf
      · replace hf := dg_f c1 hf
        refine lv_iload_n hx hb dX6_allWords_12 rfl (lv_at hl 1 rfl) ?_
        refine lv_aload_n hx hb dX6_allWords_13 rfl (lv_at hl 2 rfl) ?_
        refine va_get (D := (dC, dI)) (ci := 5) (v := .ref ht_pages) (C := RX6) (T := TX6) (N := 19) hx hb hts hinX6 hown hK hP 0 rfl rfl 7 (by decide) hw1 (fun _ h9 => h9) rfl dX6_allWords_14 ?_
        refine lv_iload_n hx hb dX6_allWords_17 rfl (lv_at hl 0 rfl) ?_
        obtain ⟨hi2, hf⟩ := dg_ix hf
        refine va_iald hx hb hK hP 1 0 rfl rfl hi2 dX6_allWords_18 ?_
        obtain ⟨x3, hx3, hf⟩ := dg_bind hf
        have hPc : va_P (dC, dI) vwCl [] H := hP.sub [] rfl
        have hDc : va_D A [] := hD.sub [] (by decide) rfl
        have hFc := va_free (wc := []) hD hS hA [] rfl
        refine va_calli (va_runS (As := [.int (vt_pages y2_4.toNatClampNeg)]) (rest := [.int y1_4]) ⟨hx, hb, hml, hown, hts⟩ (k_X6_wordsOf l dC dI cI cJ cZ H.size (vt_pages y2_4.toNatClampNeg) N x3 hx3) (va_cwS 1 hts gX6_allWords_X6_wordsOf rfl rfl rfl hd_X6_wordsOf ⟨Nat.le_of_ble_eq_true rfl, Nat.le_of_ble_eq_true rfl⟩) ⟨blind_pc, pre_pc hPc hK hDc⟩ rfl rfl hl.1 rfl (lv_room (Nat.le_of_ble_eq_true rfl)) dX6_allWords_19 ⟨Nat.zero_le _, Nat.zero_le _⟩) hS (fun q _ h => hFc q h) hFc (fun r u t H1 locs eth hvm hw hB hz1 hk1 hS => ?_)
        obtain ⟨hP1, hK1, hD1⟩ := hB
        rw [eth] at hP1
        subst hw
        obtain ⟨hP, hD⟩ := va_join (wr := [(ht, .inr (5, [.int vt_clerks, .ref ht_drops, .ref ht_tires, .ref ht_now, .ref ht_told, .ref ht_text, .int vt_length, .ref ht_pages, .int vt_acts, .int vt_next, .ref ht_row, .int vt_found, .ref ht_alike, .ref ht_table, .ref ht_keys, .ref ht_own, .long vt_seed, .ref ht_isKept, .ref ht_kept])), (ht_pages, .inl (cI, 4, .inl vt_pages))]) (w1 := []) hP hD [] [0, 1] rfl rfl (by decide) (by decide) hk1 hFc hP1 hD1
        clear hP1 hK1 hD1 hPc hDc hFc hk1 hz1 hvm eth
        generalize H1 = H at hP hS ⊢
        have hP : va_P (dC, dI) vwCl [(ht, .inr (5, [.int vt_clerks, .ref ht_drops, .ref ht_tires, .ref ht_now, .ref ht_told, .ref ht_text, .int vt_length, .ref ht_pages, .int vt_acts, .int vt_next, .ref ht_row, .int vt_found, .ref ht_alike, .ref ht_table, .ref ht_keys, .ref ht_own, .long vt_seed, .ref ht_isKept, .ref ht_kept])), (ht_pages, .inl (cI, 4, .inl vt_pages))] H := hP
        have hD : va_D A [(ht, .inr (5, [.int vt_clerks, .ref ht_drops, .ref ht_tires, .ref ht_now, .ref ht_told, .ref ht_text, .int vt_length, .ref ht_pages, .int vt_acts, .int vt_next, .ref ht_row, .int vt_found, .ref ht_alike, .ref ht_table, .ref ht_keys, .ref ht_own, .long vt_seed, .ref ht_isKept, .ref ht_kept])), (ht_pages, .inl (cI, 4, .inl vt_pages))] := hD
        refine lv_iadd hx hb dX6_allWords_22 ?_
        refine lv_istore_n (lv' := [(1, .int (y1_4 + x3)), (2, .int y2_4), (0, .ref ht)]) hx hb dX6_allWords_23 rfl hl (by decide) rfl (fun ls hl => ?_)
        refine lv_iinc (v := (y2_4 + (1:Int32))) (lv' := [(2, .int (y2_4 + (1:Int32))), (1, .int (y1_4 + x3)), (0, .ref ht)]) hx hb dX6_allWords_24 hl (k := 1) rfl (by first | rfl | decide) (by decide) rfl (fun ls hl => ?_)
        refine lv_goto (tgt := 4) hx hb dX6_allWords_27 (by decide) ?_
        exact ih4 (y1_4 + x3) (y2_4 + (1:Int32)) _ _ _ hP hD hS (lv_sub hl [0, 1, 2] rfl) hf
  exact lp4 N (0:Int32) (0:Int32) _ _ _ hP hD hS hl hf
theorem hd_X6_days : yX6_days.cls = RX6 ∧ yX6_days.cls ≠ "java/lang/invoke/MethodHandle" ∧ yX6_days.cls ≠ "java/lang/invoke/VarHandle" ∧ (parseMethodDescriptor yX6_days.desc).map (fun d => d.parameters.length) = some 2 := by decide +kernel
abbrev rm_X6_days : Room := { frames := 4, cells := 0, slots := 0, locals := 93 }
abbrev q_X6_days (dC : Nat → ClassId) (dI : Nat → Nat → Nat) (cI cJ cZ : ClassId) (ht ht_drops ht_tires ht_now ht_told ht_text ht_pages ht_row ht_alike ht_table ht_keys ht_own ht_isKept ht_kept : Nat) (vt_clerks : Int32) (vt_length : Int32) (vt_acts : Int32) (vt_next : Int32) (vt_found : Int32) (vt_drops : Nat → Int32) (vt_tires : Nat → Int32) (vt_now : Nat → Int32) (R : Int32 × Int64 × (Nat → Int32)) (A : Nat → Prop) : Array Value → State → Outcome → State → Prop := va_Qi (fun (r : Int32) (u : Int64 × (Nat → Int32)) => R.1 = r ∧ R.2 = u) (fun (u : Int64 × (Nat → Int32)) (t : State) => va_P (dC, dI) vwCl [(ht, .inr (5, [.int vt_clerks, .ref ht_drops, .ref ht_tires, .ref ht_now, .ref ht_told, .ref ht_text, .int vt_length, .ref ht_pages, .int vt_acts, .int vt_next, .ref ht_row, .int vt_found, .ref ht_alike, .ref ht_table, .ref ht_keys, .ref ht_own, .long u.1, .ref ht_isKept, .ref ht_kept])), (ht_drops, .inl (cI, 4, .inl vt_drops)), (ht_tires, .inl (cI, 4, .inl vt_tires)), (ht_now, .inl (cI, 13, .inl vt_now)), (ht_pages, .inl (cI, 4, .inl u.2))] t.heap ∧ va_K (dC, dI) vwCl [(cI, .int), (cJ, .long), (cZ, .boolean)] t ∧ va_D A [(ht, .inr (5, [.int vt_clerks, .ref ht_drops, .ref ht_tires, .ref ht_now, .ref ht_told, .ref ht_text, .int vt_length, .ref ht_pages, .int vt_acts, .int vt_next, .ref ht_row, .int vt_found, .ref ht_alike, .ref ht_table, .ref ht_keys, .ref ht_own, .long u.1, .ref ht_isKept, .ref ht_kept])), (ht_drops, .inl (cI, 4, .inl vt_drops)), (ht_tires, .inl (cI, 4, .inl vt_tires)), (ht_now, .inl (cI, 13, .inl vt_now)), (ht_pages, .inl (cI, 4, .inl u.2))]) A
set_option maxHeartbeats 4000000 in
set_option maxRecDepth 100000 in
theorem k_X6_days (l : Launch) (dC : Nat → ClassId) (dI : Nat → Nat → Nat) (cI cJ cZ : ClassId) (sz : Nat) (ht ht_drops ht_tires ht_now ht_told ht_text ht_pages ht_row ht_alike ht_table ht_keys ht_own ht_isKept ht_kept : Nat) (a1 : Int32) (a2 : Int32) (vt_clerks : Int32) (vt_length : Int32) (vt_acts : Int32) (vt_next : Int32) (vt_found : Int32) (vt_seed : Int64) (vt_drops : Nat → Int32) (vt_tires : Nat → Int32) (vt_now : Nat → Int32) (vt_pages : Nat → Int32) (N : Nat) (R : Int32 × Int64 × (Nat → Int32)) (hf : f_X6_days N a1 a2 vt_clerks vt_seed vt_drops vt_tires vt_now vt_pages = some R) : Met l yX6_days wsX6_days (rm_X6_days) (va_Pc [.ref ht, .int a1, .int a2] (fun U => U.heap.size = sz ∧ va_P (dC, dI) vwCl [(ht, .inr (5, [.int vt_clerks, .ref ht_drops, .ref ht_tires, .ref ht_now, .ref ht_told, .ref ht_text, .int vt_length, .ref ht_pages, .int vt_acts, .int vt_next, .ref ht_row, .int vt_found, .ref ht_alike, .ref ht_table, .ref ht_keys, .ref ht_own, .long vt_seed, .ref ht_isKept, .ref ht_kept])), (ht_drops, .inl (cI, 4, .inl vt_drops)), (ht_tires, .inl (cI, 4, .inl vt_tires)), (ht_now, .inl (cI, 13, .inl vt_now)), (ht_pages, .inl (cI, 4, .inl vt_pages))] U.heap ∧ va_K (dC, dI) vwCl [(cI, .int), (cJ, .long), (cZ, .boolean)] U ∧ va_D (fun _ => True) [(ht, .inr (5, [.int vt_clerks, .ref ht_drops, .ref ht_tires, .ref ht_now, .ref ht_told, .ref ht_text, .int vt_length, .ref ht_pages, .int vt_acts, .int vt_next, .ref ht_row, .int vt_found, .ref ht_alike, .ref ht_table, .ref ht_keys, .ref ht_own, .long vt_seed, .ref ht_isKept, .ref ht_kept])), (ht_drops, .inl (cI, 4, .inl vt_drops)), (ht_tires, .inl (cI, 4, .inl vt_tires)), (ht_now, .inl (cI, 13, .inl vt_now)), (ht_pages, .inl (cI, 4, .inl vt_pages))])) (q_X6_days dC dI cI cJ cZ ht ht_drops ht_tires ht_now ht_told ht_text ht_pages ht_row ht_alike ht_table ht_keys ht_own ht_isKept ht_kept vt_clerks vt_length vt_acts vt_next vt_found vt_drops vt_tires vt_now R (va_A [(ht, .inr (5, [.int vt_clerks, .ref ht_drops, .ref ht_tires, .ref ht_now, .ref ht_told, .ref ht_text, .int vt_length, .ref ht_pages, .int vt_acts, .int vt_next, .ref ht_row, .int vt_found, .ref ht_alike, .ref ht_table, .ref ht_keys, .ref ht_own, .long vt_seed, .ref ht_isKept, .ref ht_kept])), (ht_drops, .inl (cI, 4, .inl vt_drops)), (ht_tires, .inl (cI, 4, .inl vt_tires)), (ht_now, .inl (cI, 13, .inl vt_now)), (ht_pages, .inl (cI, 4, .inl vt_pages))] sz)) 0 0 (va_A [(ht, .inr (5, [.int vt_clerks, .ref ht_drops, .ref ht_tires, .ref ht_now, .ref ht_told, .ref ht_text, .int vt_length, .ref ht_pages, .int vt_acts, .int vt_next, .ref ht_row, .int vt_found, .ref ht_alike, .ref ht_table, .ref ht_keys, .ref ht_own, .long vt_seed, .ref ht_isKept, .ref ht_kept])), (ht_drops, .inl (cI, 4, .inl vt_drops)), (ht_tires, .inl (cI, 4, .inl vt_tires)), (ht_now, .inl (cI, 13, .inl vt_now)), (ht_pages, .inl (cI, 4, .inl vt_pages))] sz) := by
  refine Met.ofW (cc := cX6_days) (maxL := 7) (ret := (some .int)) (by decide) rfl ?_
  intro p e s m args below meth c s₁ B hml hv
  obtain ⟨rfl, hsz, hP, hK, hD0⟩ := hv
  have hx := B.exec
  have hb := B.bytes
  have hr := B.returns
  have hts := atoms_spec (ws := wsX6_days) B.pre
  have hown : s.vm.findClass RX6 = some m.cls := findClass_of_methodNamed B.named
  have hlocks := B.notSynchronized
  clear B
  subst hsz
  have hw0 := hts (.constantLong RX6 188 (30)) (by decide +kernel)
  have hw1 := hts (.constantLong RX6 190 (6)) (by decide +kernel)
  have hw2 := hts (.fieldLink RX6 184 "ShorthandCourtModel" "seed" "J") (by decide +kernel)
  have hw3 := hts (.constantLong RX6 192 (6364136223846793005)) (by decide +kernel)
  have hw4 := hts (.constantLong RX6 194 (1442695040888963407)) (by decide +kernel)
  have hw5 := hts (.constantLong RX6 196 (4)) (by decide +kernel)
  have hinX6 : ∀ w ∈ u_ws RX6 TX6 19, w ∈ wsX6_days := by decide +kernel
  have hD := hD0.self (sz := s.heap.size)
  clear hD0
  generalize hAe : va_A [(ht, .inr (5, [.int vt_clerks, .ref ht_drops, .ref ht_tires, .ref ht_now, .ref ht_told, .ref ht_text, .int vt_length, .ref ht_pages, .int vt_acts, .int vt_next, .ref ht_row, .int vt_found, .ref ht_alike, .ref ht_table, .ref ht_keys, .ref ht_own, .long vt_seed, .ref ht_isKept, .ref ht_kept])), (ht_drops, .inl (cI, 4, .inl vt_drops)), (ht_tires, .inl (cI, 4, .inl vt_tires)), (ht_now, .inl (cI, 13, .inl vt_now)), (ht_pages, .inl (cI, 4, .inl vt_pages))] s.heap.size = A at hD ⊢
  have hA : ∀ q : Nat, s.heap.size ≤ q → A q := fun q h => by rw [← hAe]; exact Or.inr h
  clear hAe
  have hS : va_S A s.heap s.heap [] := va_S.rf
  have hl := lv_entry ([.ref ht, .int a1, .int a2]) (n := 7) (Nat.le_of_ble_eq_true rfl)
  rw [lg_entry_eq]
  generalize (lg_sl ([.ref ht, .int a1, .int a2]) ++ List.replicate (7 - (lg_sl ([.ref ht, .int a1, .int a2])).length) Slot.unset).toArray = ls at hl ⊢
  have hl : lv_has ls 7 [(0, .ref ht), (1, .int a1), (2, .int a2)] := hl
  unfold f_X6_days at hf
  refine lv_iload_n hx hb dX6_days_0 rfl (lv_at hl 1 rfl) ?_
  refine lv_i2l hx hb dX6_days_1 rfl ?_
  refine lv_lconst (v := 1) hx hb dX6_days_2 (by decide) ?_
  refine lv_ldc2 (v := 30) hx hb hown hw0 dX6_days_3 ?_
  obtain ⟨x1, hx1, hf⟩ := dg_bind hf
  have hPc : va_P (dC, dI) vwCl [] s.heap := hP.sub [] rfl
  have hDc : va_D A [] := hD.sub [] (by decide) rfl
  have hFc := va_free (wc := []) hD hS hA [] rfl
  refine va_calli (va_runS (As := [.long a1.toInt64, .long (1:Int64), .long (30:Int64)]) (rest := []) ⟨hx, hb, hml, hown, hts⟩ (k_X6_in l dC dI cI cJ cZ s.heap.size a1.toInt64 (1:Int64) (30:Int64) N x1 hx1) (va_cwS 3 hts gX6_days_X6_in rfl rfl rfl hd_X6_in ⟨Nat.le_of_ble_eq_true rfl, Nat.le_of_ble_eq_true rfl⟩) ⟨blind_pc, pre_pc hPc hK hDc⟩ rfl rfl hl.1 rfl (lv_room (Nat.le_of_ble_eq_true rfl)) dX6_days_6 ⟨Nat.zero_le _, Nat.zero_le _⟩) hS (fun q _ h => hFc q h) hFc (fun r u t H1 locs eth hvm hw hB hz1 hk1 hS => ?_)
  obtain ⟨hP1, hK1, hD1⟩ := hB
  rw [eth] at hP1
  subst hw
  obtain ⟨hP, hD⟩ := va_join (wr := [(ht, .inr (5, [.int vt_clerks, .ref ht_drops, .ref ht_tires, .ref ht_now, .ref ht_told, .ref ht_text, .int vt_length, .ref ht_pages, .int vt_acts, .int vt_next, .ref ht_row, .int vt_found, .ref ht_alike, .ref ht_table, .ref ht_keys, .ref ht_own, .long vt_seed, .ref ht_isKept, .ref ht_kept])), (ht_drops, .inl (cI, 4, .inl vt_drops)), (ht_tires, .inl (cI, 4, .inl vt_tires)), (ht_now, .inl (cI, 13, .inl vt_now)), (ht_pages, .inl (cI, 4, .inl vt_pages))]) (w1 := []) hP hD [] [0, 1, 2, 3, 4] rfl rfl (by decide) (by decide) hk1 hFc hP1 hD1
  clear hP1 hK1 hD1 hPc hDc hFc hk1 hz1 hvm eth
  generalize H1 = H at hP hS ⊢
  have hP : va_P (dC, dI) vwCl [(ht, .inr (5, [.int vt_clerks, .ref ht_drops, .ref ht_tires, .ref ht_now, .ref ht_told, .ref ht_text, .int vt_length, .ref ht_pages, .int vt_acts, .int vt_next, .ref ht_row, .int vt_found, .ref ht_alike, .ref ht_table, .ref ht_keys, .ref ht_own, .long vt_seed, .ref ht_isKept, .ref ht_kept])), (ht_drops, .inl (cI, 4, .inl vt_drops)), (ht_tires, .inl (cI, 4, .inl vt_tires)), (ht_now, .inl (cI, 13, .inl vt_now)), (ht_pages, .inl (cI, 4, .inl vt_pages))] H := hP
  have hD : va_D A [(ht, .inr (5, [.int vt_clerks, .ref ht_drops, .ref ht_tires, .ref ht_now, .ref ht_told, .ref ht_text, .int vt_length, .ref ht_pages, .int vt_acts, .int vt_next, .ref ht_row, .int vt_found, .ref ht_alike, .ref ht_table, .ref ht_keys, .ref ht_own, .long vt_seed, .ref ht_isKept, .ref ht_kept])), (ht_drops, .inl (cI, 4, .inl vt_drops)), (ht_tires, .inl (cI, 4, .inl vt_tires)), (ht_now, .inl (cI, 13, .inl vt_now)), (ht_pages, .inl (cI, 4, .inl vt_pages))] := hD
  refine lv_if_eq (tgt := 24) hx hb dX6_days_9 (by decide) (fun c2 => ?_) (fun c2 => ?_)
  · replace hf := dg_t c2 hf
    refine lv_bipush (v := -2) hx hb dX6_days_24 (by decide) ?_
    have he := Option.some.inj hf
    have hP9 := hP
    have hD9 := hD
    exact W.iret (v := (-2:Int32)) hx hb hr (fun t eth hW => ⟨⟨(-2:Int32), (vt_seed, vt_pages), rfl, ⟨(congrArg Prod.fst he).symm, (congrArg Prod.snd he).symm⟩, by rw [eth]; exact hP9, va_K.moved hW.alike hK, hD9⟩, hS.F eth⟩) hS.2.2 dX6_days_26
  · replace hf := dg_f c2 hf
    refine lv_iload_n hx hb dX6_days_12 rfl (lv_at hl 2 rfl) ?_
    refine lv_i2l hx hb dX6_days_13 rfl ?_
    refine lv_lconst (v := 1) hx hb dX6_days_14 (by decide) ?_
    refine lv_ldc2 (v := 6) hx hb hown hw1 dX6_days_15 ?_
    obtain ⟨x3, hx3, hf⟩ := dg_bind hf
    have hPc : va_P (dC, dI) vwCl [] H := hP.sub [] rfl
    have hDc : va_D A [] := hD.sub [] (by decide) rfl
    have hFc := va_free (wc := []) hD hS hA [] rfl
    refine va_calli (va_runS (As := [.long a2.toInt64, .long (1:Int64), .long (6:Int64)]) (rest := []) ⟨hx, hb, hml, hown, hts⟩ (k_X6_in l dC dI cI cJ cZ H.size a2.toInt64 (1:Int64) (6:Int64) N x3 hx3) (va_cwS 3 hts gX6_days_X6_in rfl rfl rfl hd_X6_in ⟨Nat.le_of_ble_eq_true rfl, Nat.le_of_ble_eq_true rfl⟩) ⟨blind_pc, pre_pc hPc hK hDc⟩ rfl rfl hl.1 rfl (lv_room (Nat.le_of_ble_eq_true rfl)) dX6_days_18 ⟨Nat.zero_le _, Nat.zero_le _⟩) hS (fun q _ h => hFc q h) hFc (fun r u t H1 locs eth hvm hw hB hz1 hk1 hS => ?_)
    obtain ⟨hP1, hK1, hD1⟩ := hB
    rw [eth] at hP1
    subst hw
    obtain ⟨hP, hD⟩ := va_join (wr := [(ht, .inr (5, [.int vt_clerks, .ref ht_drops, .ref ht_tires, .ref ht_now, .ref ht_told, .ref ht_text, .int vt_length, .ref ht_pages, .int vt_acts, .int vt_next, .ref ht_row, .int vt_found, .ref ht_alike, .ref ht_table, .ref ht_keys, .ref ht_own, .long vt_seed, .ref ht_isKept, .ref ht_kept])), (ht_drops, .inl (cI, 4, .inl vt_drops)), (ht_tires, .inl (cI, 4, .inl vt_tires)), (ht_now, .inl (cI, 13, .inl vt_now)), (ht_pages, .inl (cI, 4, .inl vt_pages))]) (w1 := []) hP hD [] [0, 1, 2, 3, 4] rfl rfl (by decide) (by decide) hk1 hFc hP1 hD1
    clear hP1 hK1 hD1 hPc hDc hFc hk1 hz1 hvm eth
    generalize H1 = H at hP hS ⊢
    have hP : va_P (dC, dI) vwCl [(ht, .inr (5, [.int vt_clerks, .ref ht_drops, .ref ht_tires, .ref ht_now, .ref ht_told, .ref ht_text, .int vt_length, .ref ht_pages, .int vt_acts, .int vt_next, .ref ht_row, .int vt_found, .ref ht_alike, .ref ht_table, .ref ht_keys, .ref ht_own, .long vt_seed, .ref ht_isKept, .ref ht_kept])), (ht_drops, .inl (cI, 4, .inl vt_drops)), (ht_tires, .inl (cI, 4, .inl vt_tires)), (ht_now, .inl (cI, 13, .inl vt_now)), (ht_pages, .inl (cI, 4, .inl vt_pages))] H := hP
    have hD : va_D A [(ht, .inr (5, [.int vt_clerks, .ref ht_drops, .ref ht_tires, .ref ht_now, .ref ht_told, .ref ht_text, .int vt_length, .ref ht_pages, .int vt_acts, .int vt_next, .ref ht_row, .int vt_found, .ref ht_alike, .ref ht_table, .ref ht_keys, .ref ht_own, .long vt_seed, .ref ht_isKept, .ref ht_kept])), (ht_drops, .inl (cI, 4, .inl vt_drops)), (ht_tires, .inl (cI, 4, .inl vt_tires)), (ht_now, .inl (cI, 13, .inl vt_now)), (ht_pages, .inl (cI, 4, .inl vt_pages))] := hD
    refine lv_if_ne (tgt := 27) hx hb dX6_days_21 (by decide) (fun c4 => ?_) (fun c4 => ?_)
    · replace hf := dg_f c4 hf
      refine lv_iconst (v := 0) hx hb dX6_days_27 (by decide) ?_
      refine lv_istore_n (lv' := [(3, .int (0:Int32)), (0, .ref ht), (1, .int a1), (2, .int a2)]) hx hb dX6_days_28 rfl hl (by decide) rfl (fun ls hl => ?_)
      refine lv_iconst (v := 0) hx hb dX6_days_29 (by decide) ?_
      refine lv_istore (lv' := [(4, .int (0:Int32)), (3, .int (0:Int32)), (0, .ref ht), (1, .int a1), (2, .int a2)]) hx hb dX6_days_30 hl (by decide) rfl (fun ls hl => ?_)
      have ex32 : ∀ (z3_32 : Int32) (z4_32 : Int32) (zvt_seed_32 : Int64) (zvt_pages_32 : (Nat → Int32)) (H : Heap) (locs : List Loc) (ls : Array Slot), va_P (dC, dI) vwCl [(ht, .inr (5, [.int vt_clerks, .ref ht_drops, .ref ht_tires, .ref ht_now, .ref ht_told, .ref ht_text, .int vt_length, .ref ht_pages, .int vt_acts, .int vt_next, .ref ht_row, .int vt_found, .ref ht_alike, .ref ht_table, .ref ht_keys, .ref ht_own, .long zvt_seed_32, .ref ht_isKept, .ref ht_kept])), (ht_drops, .inl (cI, 4, .inl vt_drops)), (ht_tires, .inl (cI, 4, .inl vt_tires)), (ht_now, .inl (cI, 13, .inl vt_now)), (ht_pages, .inl (cI, 4, .inl zvt_pages_32))] H → va_D A [(ht, .inr (5, [.int vt_clerks, .ref ht_drops, .ref ht_tires, .ref ht_now, .ref ht_told, .ref ht_text, .int vt_length, .ref ht_pages, .int vt_acts, .int vt_next, .ref ht_row, .int vt_found, .ref ht_alike, .ref ht_table, .ref ht_keys, .ref ht_own, .long zvt_seed_32, .ref ht_isKept, .ref ht_kept])), (ht_drops, .inl (cI, 4, .inl vt_drops)), (ht_tires, .inl (cI, 4, .inl vt_tires)), (ht_now, .inl (cI, 13, .inl vt_now)), (ht_pages, .inl (cI, 4, .inl zvt_pages_32))] → va_S A s.heap H locs → lv_has ls 7 [(4, .int z4_32), (3, .int z3_32), (0, .ref ht), (1, .int a1), (2, .int a2)] → (some (z3_32, (zvt_seed_32, zvt_pages_32))) = some R → W p l e (rm_X6_days) s m ([.ref ht, .int a1, .int a2] : List Value).toArray below meth c H locs 0 0 (MQ below (q_X6_days dC dI cI cJ cZ ht ht_drops ht_tires ht_now ht_told ht_text ht_pages ht_row ht_alike ht_table ht_keys ht_own ht_isKept ht_kept vt_clerks vt_length vt_acts vt_next vt_found vt_drops vt_tires vt_now R A) ([.ref ht, .int a1, .int a2] : List Value).toArray s 0 0 A) (F0 m 112 ls []) := by
        intro z3_32 z4_32 zvt_seed_32 zvt_pages_32 H locs ls hP hD hS hl hf
        refine lv_iload_n hx hb dX6_days_112 rfl (lv_at hl 1 rfl) ?_
        have he := Option.some.inj hf
        have hP9 := hP
        have hD9 := hD
        exact W.iret (v := z3_32) hx hb hr (fun t eth hW => ⟨⟨z3_32, (zvt_seed_32, zvt_pages_32), rfl, ⟨(congrArg Prod.fst he).symm, (congrArg Prod.snd he).symm⟩, by rw [eth]; exact hP9, va_K.moved hW.alike hK, hD9⟩, hS.F eth⟩) hS.2.2 dX6_days_113
      have lp32 : ∀ (n32 : Nat) (y3_32 : Int32) (y4_32 : Int32) (yvt_seed_32 : Int64) (yvt_pages_32 : (Nat → Int32)) (H : Heap) (locs : List Loc) (ls : Array Slot), va_P (dC, dI) vwCl [(ht, .inr (5, [.int vt_clerks, .ref ht_drops, .ref ht_tires, .ref ht_now, .ref ht_told, .ref ht_text, .int vt_length, .ref ht_pages, .int vt_acts, .int vt_next, .ref ht_row, .int vt_found, .ref ht_alike, .ref ht_table, .ref ht_keys, .ref ht_own, .long yvt_seed_32, .ref ht_isKept, .ref ht_kept])), (ht_drops, .inl (cI, 4, .inl vt_drops)), (ht_tires, .inl (cI, 4, .inl vt_tires)), (ht_now, .inl (cI, 13, .inl vt_now)), (ht_pages, .inl (cI, 4, .inl yvt_pages_32))] H → va_D A [(ht, .inr (5, [.int vt_clerks, .ref ht_drops, .ref ht_tires, .ref ht_now, .ref ht_told, .ref ht_text, .int vt_length, .ref ht_pages, .int vt_acts, .int vt_next, .ref ht_row, .int vt_found, .ref ht_alike, .ref ht_table, .ref ht_keys, .ref ht_own, .long yvt_seed_32, .ref ht_isKept, .ref ht_kept])), (ht_drops, .inl (cI, 4, .inl vt_drops)), (ht_tires, .inl (cI, 4, .inl vt_tires)), (ht_now, .inl (cI, 13, .inl vt_now)), (ht_pages, .inl (cI, 4, .inl yvt_pages_32))] → va_S A s.heap H locs → lv_has ls 7 [(4, .int y4_32), (3, .int y3_32), (0, .ref ht), (1, .int a1), (2, .int a2)] → f_X6_days_32 N a1 a2 vt_clerks vt_drops vt_tires vt_now (fun z3_32 z4_32 zvt_seed_32 zvt_pages_32 => some (z3_32, (zvt_seed_32, zvt_pages_32))) n32 y3_32 y4_32 yvt_seed_32 yvt_pages_32 = some R → W p l e (rm_X6_days) s m ([.ref ht, .int a1, .int a2] : List Value).toArray below meth c H locs 0 0 (MQ below (q_X6_days dC dI cI cJ cZ ht ht_drops ht_tires ht_now ht_told ht_text ht_pages ht_row ht_alike ht_table ht_keys ht_own ht_isKept ht_kept vt_clerks vt_length vt_acts vt_next vt_found vt_drops vt_tires vt_now R A) ([.ref ht, .int a1, .int a2] : List Value).toArray s 0 0 A) (F0 m 32 ls []) := by
        intro n32
        induction n32 with
        | zero => intro y3_32 y4_32 yvt_seed_32 yvt_pages_32 H locs ls hP hD hS hl hf; rw [f_X6_days_32] at hf; cases hf
        | succ n32 ih32 =>
          intro y3_32 y4_32 yvt_seed_32 yvt_pages_32 H locs ls hP hD hS hl hf
          rw [f_X6_days_32] at hf
          refine lv_iload hx hb dX6_days_32 (lv_at hl 0 rfl) ?_
          refine lv_iload_n hx hb dX6_days_34 rfl (lv_at hl 3 rfl) ?_
          refine lv_icmp_ge (tgt := 112) hx hb dX6_days_35 (by decide) (fun c5 => ?_) (fun c5 => ?_)
          · replace hf := dg_t c5 hf
            exact ex32 y3_32 y4_32 yvt_seed_32 yvt_pages_32 _ _ _ hP hD hS (lv_sub hl [0, 1, 2, 3, 4] rfl) hf
          · replace hf := dg_f c5 hf
            refine lv_iconst (v := 0) hx hb dX6_days_38 (by decide) ?_
            refine lv_istore (lv' := [(5, .int (0:Int32)), (4, .int y4_32), (3, .int y3_32), (0, .ref ht), (1, .int a1), (2, .int a2)]) hx hb dX6_days_39 hl (by decide) rfl (fun ls hl => ?_)
            refine lv_iconst (v := 0) hx hb dX6_days_41 (by decide) ?_
            refine lv_istore (lv' := [(6, .int (0:Int32)), (5, .int (0:Int32)), (4, .int y4_32), (3, .int y3_32), (0, .ref ht), (1, .int a1), (2, .int a2)]) hx hb dX6_days_42 hl (by decide) rfl (fun ls hl => ?_)
            have ex44 : ∀ (z5_44 : Int32) (z6_44 : Int32) (zvt_seed_44 : Int64) (H : Heap) (locs : List Loc) (ls : Array Slot), va_P (dC, dI) vwCl [(ht, .inr (5, [.int vt_clerks, .ref ht_drops, .ref ht_tires, .ref ht_now, .ref ht_told, .ref ht_text, .int vt_length, .ref ht_pages, .int vt_acts, .int vt_next, .ref ht_row, .int vt_found, .ref ht_alike, .ref ht_table, .ref ht_keys, .ref ht_own, .long zvt_seed_44, .ref ht_isKept, .ref ht_kept])), (ht_drops, .inl (cI, 4, .inl vt_drops)), (ht_tires, .inl (cI, 4, .inl vt_tires)), (ht_now, .inl (cI, 13, .inl vt_now)), (ht_pages, .inl (cI, 4, .inl yvt_pages_32))] H → va_D A [(ht, .inr (5, [.int vt_clerks, .ref ht_drops, .ref ht_tires, .ref ht_now, .ref ht_told, .ref ht_text, .int vt_length, .ref ht_pages, .int vt_acts, .int vt_next, .ref ht_row, .int vt_found, .ref ht_alike, .ref ht_table, .ref ht_keys, .ref ht_own, .long zvt_seed_44, .ref ht_isKept, .ref ht_kept])), (ht_drops, .inl (cI, 4, .inl vt_drops)), (ht_tires, .inl (cI, 4, .inl vt_tires)), (ht_now, .inl (cI, 13, .inl vt_now)), (ht_pages, .inl (cI, 4, .inl yvt_pages_32))] → va_S A s.heap H locs → lv_has ls 7 [(6, .int z6_44), (5, .int z5_44), (4, .int y4_32), (3, .int y3_32), (0, .ref ht), (1, .int a1), (2, .int a2)] → ((f_X6_layPages N z5_44 (-9:Int32) vt_clerks vt_drops vt_tires vt_now yvt_pages_32).bind (fun x6 => (f_X6_allWords N vt_clerks x6).bind (fun x7 => f_X6_days_32 N a1 a2 vt_clerks vt_drops vt_tires vt_now (fun z3_32 z4_32 zvt_seed_32 zvt_pages_32 => some (z3_32, (zvt_seed_32, zvt_pages_32))) n32 (y3_32 + x7) (y4_32 + (1:Int32)) zvt_seed_44 x6))) = some R → W p l e (rm_X6_days) s m ([.ref ht, .int a1, .int a2] : List Value).toArray below meth c H locs 0 0 (MQ below (q_X6_days dC dI cI cJ cZ ht ht_drops ht_tires ht_now ht_told ht_text ht_pages ht_row ht_alike ht_table ht_keys ht_own ht_isKept ht_kept vt_clerks vt_length vt_acts vt_next vt_found vt_drops vt_tires vt_now R A) ([.ref ht, .int a1, .int a2] : List Value).toArray s 0 0 A) (F0 m 91 ls []) := by
              intro z5_44 z6_44 zvt_seed_44 H locs ls hP hD hS hl hf
              refine lv_aload_n hx hb dX6_days_91 rfl (lv_at hl 4 rfl) ?_
              refine lv_iload hx hb dX6_days_92 (lv_at hl 1 rfl) ?_
              refine lv_bipush (v := -9) hx hb dX6_days_94 (by decide) ?_
              obtain ⟨x6, hx6, hf⟩ := dg_bind hf
              have hPc : va_P (dC, dI) vwCl [(ht, .inr (5, [.int vt_clerks, .ref ht_drops, .ref ht_tires, .ref ht_now, .ref ht_told, .ref ht_text, .int vt_length, .ref ht_pages, .int vt_acts, .int vt_next, .ref ht_row, .int vt_found, .ref ht_alike, .ref ht_table, .ref ht_keys, .ref ht_own, .long zvt_seed_44, .ref ht_isKept, .ref ht_kept])), (ht_drops, .inl (cI, 4, .inl vt_drops)), (ht_tires, .inl (cI, 4, .inl vt_tires)), (ht_now, .inl (cI, 13, .inl vt_now)), (ht_pages, .inl (cI, 4, .inl yvt_pages_32))] H := hP.sub [0, 1, 2, 3, 4] rfl
              have hDc : va_D A [(ht, .inr (5, [.int vt_clerks, .ref ht_drops, .ref ht_tires, .ref ht_now, .ref ht_told, .ref ht_text, .int vt_length, .ref ht_pages, .int vt_acts, .int vt_next, .ref ht_row, .int vt_found, .ref ht_alike, .ref ht_table, .ref ht_keys, .ref ht_own, .long zvt_seed_44, .ref ht_isKept, .ref ht_kept])), (ht_drops, .inl (cI, 4, .inl vt_drops)), (ht_tires, .inl (cI, 4, .inl vt_tires)), (ht_now, .inl (cI, 13, .inl vt_now)), (ht_pages, .inl (cI, 4, .inl yvt_pages_32))] := hD.sub [0, 1, 2, 3, 4] (by decide) rfl
              have hFc := va_free (wc := [(ht, .inr (5, [.int vt_clerks, .ref ht_drops, .ref ht_tires, .ref ht_now, .ref ht_told, .ref ht_text, .int vt_length, .ref ht_pages, .int vt_acts, .int vt_next, .ref ht_row, .int vt_found, .ref ht_alike, .ref ht_table, .ref ht_keys, .ref ht_own, .long zvt_seed_44, .ref ht_isKept, .ref ht_kept])), (ht_drops, .inl (cI, 4, .inl vt_drops)), (ht_tires, .inl (cI, 4, .inl vt_tires)), (ht_now, .inl (cI, 13, .inl vt_now)), (ht_pages, .inl (cI, 4, .inl yvt_pages_32))]) hD hS hA [0, 1, 2, 3, 4] rfl
              refine va_callv (va_runV (As := [.int z5_44, .int (-9:Int32)]) (rest := []) ⟨hx, hb, hml, hown, hts⟩ (k_X6_layPages l dC dI cI cJ cZ H.size ht ht_drops ht_tires ht_now ht_told ht_text ht_pages ht_row ht_alike ht_table ht_keys ht_own ht_isKept ht_kept z5_44 (-9:Int32) vt_clerks vt_length vt_acts vt_next vt_found zvt_seed_44 vt_drops vt_tires vt_now yvt_pages_32 N x6 hx6) (cwV 2 hts gX6_days_X6_layPages rfl rfl rfl hd_X6_layPages ⟨Nat.le_of_ble_eq_true rfl, Nat.le_of_ble_eq_true rfl⟩) ⟨blind_pc, va_recv hK hPc (ci := 5) (q0 := 0) rfl rfl, pre_pc hPc hK hDc⟩ rfl rfl hl.1 rfl (lv_room (Nat.le_of_ble_eq_true rfl)) dX6_days_96 ⟨Nat.zero_le _, Nat.zero_le _⟩) hS (fun q _ h => hFc q h) hFc (fun u t H1 locs eth hvm hw hB hz1 hk1 hS => ?_)
              obtain ⟨hP1, hK1, hD1⟩ := hB
              rw [eth] at hP1
              subst hw
              obtain ⟨hP, hD⟩ := va_join (wr := []) (w1 := [(ht, .inr (5, [.int vt_clerks, .ref ht_drops, .ref ht_tires, .ref ht_now, .ref ht_told, .ref ht_text, .int vt_length, .ref ht_pages, .int vt_acts, .int vt_next, .ref ht_row, .int vt_found, .ref ht_alike, .ref ht_table, .ref ht_keys, .ref ht_own, .long zvt_seed_44, .ref ht_isKept, .ref ht_kept])), (ht_drops, .inl (cI, 4, .inl vt_drops)), (ht_tires, .inl (cI, 4, .inl vt_tires)), (ht_now, .inl (cI, 13, .inl vt_now)), (ht_pages, .inl (cI, 4, .inl x6))]) hP hD [0, 1, 2, 3, 4] [] rfl rfl (by decide) (by decide) hk1 hFc hP1 hD1
              clear hP1 hK1 hD1 hPc hDc hFc hk1 hz1 hvm eth
              generalize H1 = H at hP hS ⊢
              have hP : va_P (dC, dI) vwCl [(ht, .inr (5, [.int vt_clerks, .ref ht_drops, .ref ht_tires, .ref ht_now, .ref ht_told, .ref ht_text, .int vt_length, .ref ht_pages, .int vt_acts, .int vt_next, .ref ht_row, .int vt_found, .ref ht_alike, .ref ht_table, .ref ht_keys, .ref ht_own, .long zvt_seed_44, .ref ht_isKept, .ref ht_kept])), (ht_drops, .inl (cI, 4, .inl vt_drops)), (ht_tires, .inl (cI, 4, .inl vt_tires)), (ht_now, .inl (cI, 13, .inl vt_now)), (ht_pages, .inl (cI, 4, .inl x6))] H := hP
              have hD : va_D A [(ht, .inr (5, [.int vt_clerks, .ref ht_drops, .ref ht_tires, .ref ht_now, .ref ht_told, .ref ht_text, .int vt_length, .ref ht_pages, .int vt_acts, .int vt_next, .ref ht_row, .int vt_found, .ref ht_alike, .ref ht_table, .ref ht_keys, .ref ht_own, .long zvt_seed_44, .ref ht_isKept, .ref ht_kept])), (ht_drops, .inl (cI, 4, .inl vt_drops)), (ht_tires, .inl (cI, 4, .inl vt_tires)), (ht_now, .inl (cI, 13, .inl vt_now)), (ht_pages, .inl (cI, 4, .inl x6))] := hD
              refine lv_iload_n hx hb dX6_days_99 rfl (lv_at hl 3 rfl) ?_
              refine lv_aload_n hx hb dX6_days_100 rfl (lv_at hl 4 rfl) ?_
              obtain ⟨x7, hx7, hf⟩ := dg_bind hf
              have hPc : va_P (dC, dI) vwCl [(ht, .inr (5, [.int vt_clerks, .ref ht_drops, .ref ht_tires, .ref ht_now, .ref ht_told, .ref ht_text, .int vt_length, .ref ht_pages, .int vt_acts, .int vt_next, .ref ht_row, .int vt_found, .ref ht_alike, .ref ht_table, .ref ht_keys, .ref ht_own, .long zvt_seed_44, .ref ht_isKept, .ref ht_kept])), (ht_pages, .inl (cI, 4, .inl x6))] H := hP.sub [0, 4] rfl
              have hDc : va_D A [(ht, .inr (5, [.int vt_clerks, .ref ht_drops, .ref ht_tires, .ref ht_now, .ref ht_told, .ref ht_text, .int vt_length, .ref ht_pages, .int vt_acts, .int vt_next, .ref ht_row, .int vt_found, .ref ht_alike, .ref ht_table, .ref ht_keys, .ref ht_own, .long zvt_seed_44, .ref ht_isKept, .ref ht_kept])), (ht_pages, .inl (cI, 4, .inl x6))] := hD.sub [0, 4] (by decide) rfl
              have hFc := va_free (wc := [(ht, .inr (5, [.int vt_clerks, .ref ht_drops, .ref ht_tires, .ref ht_now, .ref ht_told, .ref ht_text, .int vt_length, .ref ht_pages, .int vt_acts, .int vt_next, .ref ht_row, .int vt_found, .ref ht_alike, .ref ht_table, .ref ht_keys, .ref ht_own, .long zvt_seed_44, .ref ht_isKept, .ref ht_kept])), (ht_pages, .inl (cI, 4, .inl x6))]) hD hS hA [0, 4] rfl
              refine va_calli (va_runV (As := []) (rest := [.int y3_32]) ⟨hx, hb, hml, hown, hts⟩ (k_X6_allWords l dC dI cI cJ cZ H.size ht ht_drops ht_tires ht_now ht_told ht_text ht_pages ht_row ht_alike ht_table ht_keys ht_own ht_isKept ht_kept vt_clerks vt_length vt_acts vt_next vt_found zvt_seed_44 x6 N x7 hx7) (cwV 0 hts gX6_days_X6_allWords rfl rfl rfl hd_X6_allWords ⟨Nat.le_of_ble_eq_true rfl, Nat.le_of_ble_eq_true rfl⟩) ⟨blind_pc, va_recv hK hPc (ci := 5) (q0 := 0) rfl rfl, pre_pc hPc hK hDc⟩ rfl rfl hl.1 rfl (lv_room (Nat.le_of_ble_eq_true rfl)) dX6_days_101 ⟨Nat.zero_le _, Nat.zero_le _⟩) hS (fun q _ h => hFc q h) hFc (fun r u t H1 locs eth hvm hw hB hz1 hk1 hS => ?_)
              obtain ⟨hP1, hK1, hD1⟩ := hB
              rw [eth] at hP1
              subst hw
              obtain ⟨hP, hD⟩ := va_join (wr := [(ht_drops, .inl (cI, 4, .inl vt_drops)), (ht_tires, .inl (cI, 4, .inl vt_tires)), (ht_now, .inl (cI, 13, .inl vt_now))]) (w1 := [(ht, .inr (5, [.int vt_clerks, .ref ht_drops, .ref ht_tires, .ref ht_now, .ref ht_told, .ref ht_text, .int vt_length, .ref ht_pages, .int vt_acts, .int vt_next, .ref ht_row, .int vt_found, .ref ht_alike, .ref ht_table, .ref ht_keys, .ref ht_own, .long zvt_seed_44, .ref ht_isKept, .ref ht_kept])), (ht_pages, .inl (cI, 4, .inl x6))]) hP hD [0, 4] [1, 2, 3] rfl rfl (by decide) (by decide) hk1 hFc hP1 hD1
              clear hP1 hK1 hD1 hPc hDc hFc hk1 hz1 hvm eth
              generalize H1 = H at hP hS ⊢
              have hP : va_P (dC, dI) vwCl [(ht_drops, .inl (cI, 4, .inl vt_drops)), (ht_tires, .inl (cI, 4, .inl vt_tires)), (ht_now, .inl (cI, 13, .inl vt_now)), (ht, .inr (5, [.int vt_clerks, .ref ht_drops, .ref ht_tires, .ref ht_now, .ref ht_told, .ref ht_text, .int vt_length, .ref ht_pages, .int vt_acts, .int vt_next, .ref ht_row, .int vt_found, .ref ht_alike, .ref ht_table, .ref ht_keys, .ref ht_own, .long zvt_seed_44, .ref ht_isKept, .ref ht_kept])), (ht_pages, .inl (cI, 4, .inl x6))] H := hP
              have hD : va_D A [(ht_drops, .inl (cI, 4, .inl vt_drops)), (ht_tires, .inl (cI, 4, .inl vt_tires)), (ht_now, .inl (cI, 13, .inl vt_now)), (ht, .inr (5, [.int vt_clerks, .ref ht_drops, .ref ht_tires, .ref ht_now, .ref ht_told, .ref ht_text, .int vt_length, .ref ht_pages, .int vt_acts, .int vt_next, .ref ht_row, .int vt_found, .ref ht_alike, .ref ht_table, .ref ht_keys, .ref ht_own, .long zvt_seed_44, .ref ht_isKept, .ref ht_kept])), (ht_pages, .inl (cI, 4, .inl x6))] := hD
              refine lv_iadd hx hb dX6_days_104 ?_
              refine lv_istore_n (lv' := [(3, .int (y3_32 + x7)), (6, .int z6_44), (5, .int z5_44), (4, .int y4_32), (0, .ref ht), (1, .int a1), (2, .int a2)]) hx hb dX6_days_105 rfl hl (by decide) rfl (fun ls hl => ?_)
              refine lv_iinc (v := (y4_32 + (1:Int32))) (lv' := [(4, .int (y4_32 + (1:Int32))), (3, .int (y3_32 + x7)), (6, .int z6_44), (5, .int z5_44), (0, .ref ht), (1, .int a1), (2, .int a2)]) hx hb dX6_days_106 hl (k := 3) rfl (by first | rfl | decide) (by decide) rfl (fun ls hl => ?_)
              refine lv_goto (tgt := 32) hx hb dX6_days_109 (by decide) ?_
              exact ih32 (y3_32 + x7) (y4_32 + (1:Int32)) zvt_seed_44 x6 _ _ _ (hP.sub (ws' := [(ht, .inr (5, [.int vt_clerks, .ref ht_drops, .ref ht_tires, .ref ht_now, .ref ht_told, .ref ht_text, .int vt_length, .ref ht_pages, .int vt_acts, .int vt_next, .ref ht_row, .int vt_found, .ref ht_alike, .ref ht_table, .ref ht_keys, .ref ht_own, .long zvt_seed_44, .ref ht_isKept, .ref ht_kept])), (ht_drops, .inl (cI, 4, .inl vt_drops)), (ht_tires, .inl (cI, 4, .inl vt_tires)), (ht_now, .inl (cI, 13, .inl vt_now)), (ht_pages, .inl (cI, 4, .inl x6))]) [3, 0, 1, 2, 4] rfl) (hD.sub (ws' := [(ht, .inr (5, [.int vt_clerks, .ref ht_drops, .ref ht_tires, .ref ht_now, .ref ht_told, .ref ht_text, .int vt_length, .ref ht_pages, .int vt_acts, .int vt_next, .ref ht_row, .int vt_found, .ref ht_alike, .ref ht_table, .ref ht_keys, .ref ht_own, .long zvt_seed_44, .ref ht_isKept, .ref ht_kept])), (ht_drops, .inl (cI, 4, .inl vt_drops)), (ht_tires, .inl (cI, 4, .inl vt_tires)), (ht_now, .inl (cI, 13, .inl vt_now)), (ht_pages, .inl (cI, 4, .inl x6))]) [3, 0, 1, 2, 4] (by decide) rfl) hS (lv_sub hl [0, 1, 4, 5, 6] rfl) hf
            have lp44 : ∀ (n44 : Nat) (y5_44 : Int32) (y6_44 : Int32) (yvt_seed_44 : Int64) (H : Heap) (locs : List Loc) (ls : Array Slot), va_P (dC, dI) vwCl [(ht, .inr (5, [.int vt_clerks, .ref ht_drops, .ref ht_tires, .ref ht_now, .ref ht_told, .ref ht_text, .int vt_length, .ref ht_pages, .int vt_acts, .int vt_next, .ref ht_row, .int vt_found, .ref ht_alike, .ref ht_table, .ref ht_keys, .ref ht_own, .long yvt_seed_44, .ref ht_isKept, .ref ht_kept])), (ht_drops, .inl (cI, 4, .inl vt_drops)), (ht_tires, .inl (cI, 4, .inl vt_tires)), (ht_now, .inl (cI, 13, .inl vt_now)), (ht_pages, .inl (cI, 4, .inl yvt_pages_32))] H → va_D A [(ht, .inr (5, [.int vt_clerks, .ref ht_drops, .ref ht_tires, .ref ht_now, .ref ht_told, .ref ht_text, .int vt_length, .ref ht_pages, .int vt_acts, .int vt_next, .ref ht_row, .int vt_found, .ref ht_alike, .ref ht_table, .ref ht_keys, .ref ht_own, .long yvt_seed_44, .ref ht_isKept, .ref ht_kept])), (ht_drops, .inl (cI, 4, .inl vt_drops)), (ht_tires, .inl (cI, 4, .inl vt_tires)), (ht_now, .inl (cI, 13, .inl vt_now)), (ht_pages, .inl (cI, 4, .inl yvt_pages_32))] → va_S A s.heap H locs → lv_has ls 7 [(6, .int y6_44), (5, .int y5_44), (4, .int y4_32), (3, .int y3_32), (0, .ref ht), (1, .int a1), (2, .int a2)] → f_X6_days_44 N a2 (fun z5_44 z6_44 zvt_seed_44 => (f_X6_layPages N z5_44 (-9:Int32) vt_clerks vt_drops vt_tires vt_now yvt_pages_32).bind (fun x6 => (f_X6_allWords N vt_clerks x6).bind (fun x7 => f_X6_days_32 N a1 a2 vt_clerks vt_drops vt_tires vt_now (fun z3_32 z4_32 zvt_seed_32 zvt_pages_32 => some (z3_32, (zvt_seed_32, zvt_pages_32))) n32 (y3_32 + x7) (y4_32 + (1:Int32)) zvt_seed_44 x6))) n44 y5_44 y6_44 yvt_seed_44 = some R → W p l e (rm_X6_days) s m ([.ref ht, .int a1, .int a2] : List Value).toArray below meth c H locs 0 0 (MQ below (q_X6_days dC dI cI cJ cZ ht ht_drops ht_tires ht_now ht_told ht_text ht_pages ht_row ht_alike ht_table ht_keys ht_own ht_isKept ht_kept vt_clerks vt_length vt_acts vt_next vt_found vt_drops vt_tires vt_now R A) ([.ref ht, .int a1, .int a2] : List Value).toArray s 0 0 A) (F0 m 44 ls []) := by
              intro n44
              induction n44 with
              | zero => intro y5_44 y6_44 yvt_seed_44 H locs ls hP hD hS hl hf; rw [f_X6_days_44] at hf; cases hf
              | succ n44 ih44 =>
                intro y5_44 y6_44 yvt_seed_44 H locs ls hP hD hS hl hf
                rw [f_X6_days_44] at hf
                refine lv_iload hx hb dX6_days_44 (lv_at hl 0 rfl) ?_
                refine lv_iload_n hx hb dX6_days_46 rfl (lv_at hl 6 rfl) ?_
                refine lv_icmp_ge (tgt := 91) hx hb dX6_days_47 (by decide) (fun c8 => ?_) (fun c8 => ?_)
                · replace hf := dg_t c8 hf
                  exact ex44 y5_44 y6_44 yvt_seed_44 _ _ _ hP hD hS (lv_sub hl [0, 1, 2, 3, 4, 5, 6] rfl) hf
                · replace hf := dg_f c8 hf
                  refine lv_aload_n hx hb dX6_days_50 rfl (lv_at hl 4 rfl) ?_
                  refine lv_aload_n hx hb dX6_days_51 rfl (lv_at hl 4 rfl) ?_
                  refine va_get (D := (dC, dI)) (ci := 5) (v := .long yvt_seed_44) (C := RX6) (T := TX6) (N := 19) hx hb hts hinX6 hown hK hP 0 rfl rfl 16 (by decide) hw2 (fun _ h9 => h9) rfl dX6_days_52 ?_
                  refine lv_ldc2 (v := 6364136223846793005) hx hb hown hw3 dX6_days_55 ?_
                  refine lv_lmul hx hb dX6_days_58 ?_
                  refine lv_ldc2 (v := 1442695040888963407) hx hb hown hw4 dX6_days_59 ?_
                  refine lv_ladd hx hb dX6_days_62 ?_
                  refine va_put (D := (dC, dI)) (ci := 5) (v := .long ((yvt_seed_44 * (6364136223846793005:Int64)) + (1442695040888963407:Int64))) (ty := .long) (C := RX6) (T := TX6) (N := 19) hx hb hts hinX6 tyX6 tyX6_ok nmX6 hown hK hP hD hS 0 rfl rfl 16 (by decide) hw2 (fun _ h9 => h9) rfl (by decide +kernel) rfl rfl (Nat.le_of_ble_eq_true rfl) dX6_days_63 (fun H locs hP hD hS => ?_)
                  have hP : va_P (dC, dI) vwCl [(ht, .inr (5, [.int vt_clerks, .ref ht_drops, .ref ht_tires, .ref ht_now, .ref ht_told, .ref ht_text, .int vt_length, .ref ht_pages, .int vt_acts, .int vt_next, .ref ht_row, .int vt_found, .ref ht_alike, .ref ht_table, .ref ht_keys, .ref ht_own, .long ((yvt_seed_44 * (6364136223846793005:Int64)) + (1442695040888963407:Int64)), .ref ht_isKept, .ref ht_kept])), (ht_drops, .inl (cI, 4, .inl vt_drops)), (ht_tires, .inl (cI, 4, .inl vt_tires)), (ht_now, .inl (cI, 13, .inl vt_now)), (ht_pages, .inl (cI, 4, .inl yvt_pages_32))] H := hP
                  have hD : va_D A [(ht, .inr (5, [.int vt_clerks, .ref ht_drops, .ref ht_tires, .ref ht_now, .ref ht_told, .ref ht_text, .int vt_length, .ref ht_pages, .int vt_acts, .int vt_next, .ref ht_row, .int vt_found, .ref ht_alike, .ref ht_table, .ref ht_keys, .ref ht_own, .long ((yvt_seed_44 * (6364136223846793005:Int64)) + (1442695040888963407:Int64)), .ref ht_isKept, .ref ht_kept])), (ht_drops, .inl (cI, 4, .inl vt_drops)), (ht_tires, .inl (cI, 4, .inl vt_tires)), (ht_now, .inl (cI, 13, .inl vt_now)), (ht_pages, .inl (cI, 4, .inl yvt_pages_32))] := hD
                  refine lv_iload hx hb dX6_days_66 (lv_at hl 1 rfl) ?_
                  refine lv_aload_n hx hb dX6_days_68 rfl (lv_at hl 4 rfl) ?_
                  refine va_get (D := (dC, dI)) (ci := 5) (v := .long ((yvt_seed_44 * (6364136223846793005:Int64)) + (1442695040888963407:Int64))) (C := RX6) (T := TX6) (N := 19) hx hb hts hinX6 hown hK hP 0 rfl rfl 16 (by decide) hw2 (fun _ h9 => h9) rfl dX6_days_69 ?_
                  refine lv_bipush (v := 33) hx hb dX6_days_72 (by decide) ?_
                  refine lv_lushr hx hb dX6_days_74 rfl ?_
                  refine lv_ldc2 (v := 4) hx hb hown hw5 dX6_days_75 ?_
                  refine lv_lrem hx hb dX6_days_78 (by decide) ?_
                  refine lv_l2i hx hb dX6_days_79 rfl ?_
                  obtain ⟨x9, hx9, hf⟩ := dg_bind hf
                  have hPc : va_P (dC, dI) vwCl [] H := hP.sub [] rfl
                  have hDc : va_D A [] := hD.sub [] (by decide) rfl
                  have hFc := va_free (wc := []) hD hS hA [] rfl
                  refine va_calli (va_runS (As := [.int y5_44, .int ((((yvt_seed_44 * (6364136223846793005:Int64)) + (1442695040888963407:Int64)).toUInt64 >>> ((33:Int32).toInt64.toUInt64 &&& Int64.toUInt64 63)).toInt64 - (((yvt_seed_44 * (6364136223846793005:Int64)) + (1442695040888963407:Int64)).toUInt64 >>> ((33:Int32).toInt64.toUInt64 &&& Int64.toUInt64 63)).toInt64 / (4:Int64) * (4:Int64)).toInt32]) (rest := []) ⟨hx, hb, hml, hown, hts⟩ (k_X6_withWord l dC dI cI cJ cZ H.size y5_44 ((((yvt_seed_44 * (6364136223846793005:Int64)) + (1442695040888963407:Int64)).toUInt64 >>> ((33:Int32).toInt64.toUInt64 &&& Int64.toUInt64 63)).toInt64 - (((yvt_seed_44 * (6364136223846793005:Int64)) + (1442695040888963407:Int64)).toUInt64 >>> ((33:Int32).toInt64.toUInt64 &&& Int64.toUInt64 63)).toInt64 / (4:Int64) * (4:Int64)).toInt32 N x9 hx9) (va_cwS 2 hts gX6_days_X6_withWord rfl rfl rfl hd_X6_withWord ⟨Nat.le_of_ble_eq_true rfl, Nat.le_of_ble_eq_true rfl⟩) ⟨blind_pc, pre_pc hPc hK hDc⟩ rfl rfl hl.1 rfl (lv_room (Nat.le_of_ble_eq_true rfl)) dX6_days_80 ⟨Nat.zero_le _, Nat.zero_le _⟩) hS (fun q _ h => hFc q h) hFc (fun r u t H1 locs eth hvm hw hB hz1 hk1 hS => ?_)
                  obtain ⟨hP1, hK1, hD1⟩ := hB
                  rw [eth] at hP1
                  subst hw
                  obtain ⟨hP, hD⟩ := va_join (wr := [(ht, .inr (5, [.int vt_clerks, .ref ht_drops, .ref ht_tires, .ref ht_now, .ref ht_told, .ref ht_text, .int vt_length, .ref ht_pages, .int vt_acts, .int vt_next, .ref ht_row, .int vt_found, .ref ht_alike, .ref ht_table, .ref ht_keys, .ref ht_own, .long ((yvt_seed_44 * (6364136223846793005:Int64)) + (1442695040888963407:Int64)), .ref ht_isKept, .ref ht_kept])), (ht_drops, .inl (cI, 4, .inl vt_drops)), (ht_tires, .inl (cI, 4, .inl vt_tires)), (ht_now, .inl (cI, 13, .inl vt_now)), (ht_pages, .inl (cI, 4, .inl yvt_pages_32))]) (w1 := []) hP hD [] [0, 1, 2, 3, 4] rfl rfl (by decide) (by decide) hk1 hFc hP1 hD1
                  clear hP1 hK1 hD1 hPc hDc hFc hk1 hz1 hvm eth
                  generalize H1 = H at hP hS ⊢
                  have hP : va_P (dC, dI) vwCl [(ht, .inr (5, [.int vt_clerks, .ref ht_drops, .ref ht_tires, .ref ht_now, .ref ht_told, .ref ht_text, .int vt_length, .ref ht_pages, .int vt_acts, .int vt_next, .ref ht_row, .int vt_found, .ref ht_alike, .ref ht_table, .ref ht_keys, .ref ht_own, .long ((yvt_seed_44 * (6364136223846793005:Int64)) + (1442695040888963407:Int64)), .ref ht_isKept, .ref ht_kept])), (ht_drops, .inl (cI, 4, .inl vt_drops)), (ht_tires, .inl (cI, 4, .inl vt_tires)), (ht_now, .inl (cI, 13, .inl vt_now)), (ht_pages, .inl (cI, 4, .inl yvt_pages_32))] H := hP
                  have hD : va_D A [(ht, .inr (5, [.int vt_clerks, .ref ht_drops, .ref ht_tires, .ref ht_now, .ref ht_told, .ref ht_text, .int vt_length, .ref ht_pages, .int vt_acts, .int vt_next, .ref ht_row, .int vt_found, .ref ht_alike, .ref ht_table, .ref ht_keys, .ref ht_own, .long ((yvt_seed_44 * (6364136223846793005:Int64)) + (1442695040888963407:Int64)), .ref ht_isKept, .ref ht_kept])), (ht_drops, .inl (cI, 4, .inl vt_drops)), (ht_tires, .inl (cI, 4, .inl vt_tires)), (ht_now, .inl (cI, 13, .inl vt_now)), (ht_pages, .inl (cI, 4, .inl yvt_pages_32))] := hD
                  refine lv_istore (lv' := [(5, .int x9), (6, .int y6_44), (4, .int y4_32), (3, .int y3_32), (0, .ref ht), (1, .int a1), (2, .int a2)]) hx hb dX6_days_83 hl (by decide) rfl (fun ls hl => ?_)
                  refine lv_iinc (v := (y6_44 + (1:Int32))) (lv' := [(6, .int (y6_44 + (1:Int32))), (5, .int x9), (4, .int y4_32), (3, .int y3_32), (0, .ref ht), (1, .int a1), (2, .int a2)]) hx hb dX6_days_85 hl (k := 1) rfl (by first | rfl | decide) (by decide) rfl (fun ls hl => ?_)
                  refine lv_goto (tgt := 44) hx hb dX6_days_88 (by decide) ?_
                  exact ih44 x9 (y6_44 + (1:Int32)) ((yvt_seed_44 * (6364136223846793005:Int64)) + (1442695040888963407:Int64)) _ _ _ hP hD hS (lv_sub hl [0, 1, 2, 3, 4, 5, 6] rfl) hf
            exact lp44 N (0:Int32) (0:Int32) yvt_seed_32 _ _ _ hP hD hS hl hf
      exact lp32 N (0:Int32) (0:Int32) vt_seed vt_pages _ _ _ hP hD hS hl hf
    · replace hf := dg_t c4 hf
      refine lv_bipush (v := -2) hx hb dX6_days_24 (by decide) ?_
      have he := Option.some.inj hf
      have hP9 := hP
      have hD9 := hD
      exact W.iret (v := (-2:Int32)) hx hb hr (fun t eth hW => ⟨⟨(-2:Int32), (vt_seed, vt_pages), rfl, ⟨(congrArg Prod.fst he).symm, (congrArg Prod.snd he).symm⟩, by rw [eth]; exact hP9, va_K.moved hW.alike hK, hD9⟩, hS.F eth⟩) hS.2.2 dX6_days_26
theorem hd_X6_keep : yX6_keep.cls = RX6 ∧ yX6_keep.cls ≠ "java/lang/invoke/MethodHandle" ∧ yX6_keep.cls ≠ "java/lang/invoke/VarHandle" ∧ (parseMethodDescriptor yX6_keep.desc).map (fun d => d.parameters.length) = some 1 := by decide +kernel
abbrev rm_X6_keep : Room := { frames := 1, cells := 0, slots := 0, locals := 25 }
abbrev q_X6_keep (dC : Nat → ClassId) (dI : Nat → Nat → Nat) (cI cJ cZ : ClassId) (ht ht_drops ht_tires ht_now ht_told ht_text ht_pages ht_row ht_alike ht_table ht_keys ht_own ht_isKept ht_kept : Nat) (vt_clerks : Int32) (vt_length : Int32) (vt_acts : Int32) (vt_next : Int32) (vt_found : Int32) (vt_seed : Int64) (vt_now : Nat → Int32) (R : Int32 × (Nat → Int32) × (Nat → Int32)) (A : Nat → Prop) : Array Value → State → Outcome → State → Prop := va_Qi (fun (r : Int32) (u : (Nat → Int32) × (Nat → Int32)) => R.1 = r ∧ R.2 = u) (fun (u : (Nat → Int32) × (Nat → Int32)) (t : State) => va_P (dC, dI) vwCl [(ht, .inr (5, [.int vt_clerks, .ref ht_drops, .ref ht_tires, .ref ht_now, .ref ht_told, .ref ht_text, .int vt_length, .ref ht_pages, .int vt_acts, .int vt_next, .ref ht_row, .int vt_found, .ref ht_alike, .ref ht_table, .ref ht_keys, .ref ht_own, .long vt_seed, .ref ht_isKept, .ref ht_kept])), (ht_now, .inl (cI, 13, .inl vt_now)), (ht_isKept, .inl (cZ, 2, .inl u.1)), (ht_kept, .inl (cI, 26, .inl u.2))] t.heap ∧ va_K (dC, dI) vwCl [(cI, .int), (cJ, .long), (cZ, .boolean)] t ∧ va_D A [(ht, .inr (5, [.int vt_clerks, .ref ht_drops, .ref ht_tires, .ref ht_now, .ref ht_told, .ref ht_text, .int vt_length, .ref ht_pages, .int vt_acts, .int vt_next, .ref ht_row, .int vt_found, .ref ht_alike, .ref ht_table, .ref ht_keys, .ref ht_own, .long vt_seed, .ref ht_isKept, .ref ht_kept])), (ht_now, .inl (cI, 13, .inl vt_now)), (ht_isKept, .inl (cZ, 2, .inl u.1)), (ht_kept, .inl (cI, 26, .inl u.2))]) A
set_option maxHeartbeats 4000000 in
set_option maxRecDepth 100000 in
theorem k_X6_keep (l : Launch) (dC : Nat → ClassId) (dI : Nat → Nat → Nat) (cI cJ cZ : ClassId) (sz : Nat) (ht ht_drops ht_tires ht_now ht_told ht_text ht_pages ht_row ht_alike ht_table ht_keys ht_own ht_isKept ht_kept : Nat) (a1 : Int32) (vt_clerks : Int32) (vt_length : Int32) (vt_acts : Int32) (vt_next : Int32) (vt_found : Int32) (vt_seed : Int64) (vt_now : Nat → Int32) (vt_isKept : Nat → Int32) (vt_kept : Nat → Int32) (N : Nat) (R : Int32 × (Nat → Int32) × (Nat → Int32)) (hf : f_X6_keep N a1 vt_now vt_isKept vt_kept = some R) : Met l yX6_keep wsX6_keep (rm_X6_keep) (va_Pc [.ref ht, .int a1] (fun U => U.heap.size = sz ∧ va_P (dC, dI) vwCl [(ht, .inr (5, [.int vt_clerks, .ref ht_drops, .ref ht_tires, .ref ht_now, .ref ht_told, .ref ht_text, .int vt_length, .ref ht_pages, .int vt_acts, .int vt_next, .ref ht_row, .int vt_found, .ref ht_alike, .ref ht_table, .ref ht_keys, .ref ht_own, .long vt_seed, .ref ht_isKept, .ref ht_kept])), (ht_now, .inl (cI, 13, .inl vt_now)), (ht_isKept, .inl (cZ, 2, .inl vt_isKept)), (ht_kept, .inl (cI, 26, .inl vt_kept))] U.heap ∧ va_K (dC, dI) vwCl [(cI, .int), (cJ, .long), (cZ, .boolean)] U ∧ va_D (fun _ => True) [(ht, .inr (5, [.int vt_clerks, .ref ht_drops, .ref ht_tires, .ref ht_now, .ref ht_told, .ref ht_text, .int vt_length, .ref ht_pages, .int vt_acts, .int vt_next, .ref ht_row, .int vt_found, .ref ht_alike, .ref ht_table, .ref ht_keys, .ref ht_own, .long vt_seed, .ref ht_isKept, .ref ht_kept])), (ht_now, .inl (cI, 13, .inl vt_now)), (ht_isKept, .inl (cZ, 2, .inl vt_isKept)), (ht_kept, .inl (cI, 26, .inl vt_kept))])) (q_X6_keep dC dI cI cJ cZ ht ht_drops ht_tires ht_now ht_told ht_text ht_pages ht_row ht_alike ht_table ht_keys ht_own ht_isKept ht_kept vt_clerks vt_length vt_acts vt_next vt_found vt_seed vt_now R (va_A [(ht, .inr (5, [.int vt_clerks, .ref ht_drops, .ref ht_tires, .ref ht_now, .ref ht_told, .ref ht_text, .int vt_length, .ref ht_pages, .int vt_acts, .int vt_next, .ref ht_row, .int vt_found, .ref ht_alike, .ref ht_table, .ref ht_keys, .ref ht_own, .long vt_seed, .ref ht_isKept, .ref ht_kept])), (ht_now, .inl (cI, 13, .inl vt_now)), (ht_isKept, .inl (cZ, 2, .inl vt_isKept)), (ht_kept, .inl (cI, 26, .inl vt_kept))] sz)) 0 0 (va_A [(ht, .inr (5, [.int vt_clerks, .ref ht_drops, .ref ht_tires, .ref ht_now, .ref ht_told, .ref ht_text, .int vt_length, .ref ht_pages, .int vt_acts, .int vt_next, .ref ht_row, .int vt_found, .ref ht_alike, .ref ht_table, .ref ht_keys, .ref ht_own, .long vt_seed, .ref ht_isKept, .ref ht_kept])), (ht_now, .inl (cI, 13, .inl vt_now)), (ht_isKept, .inl (cZ, 2, .inl vt_isKept)), (ht_kept, .inl (cI, 26, .inl vt_kept))] sz) := by
  refine Met.ofW (cc := cX6_keep) (maxL := 3) (ret := (some .int)) (by decide) rfl ?_
  intro p e s m args below meth c s₁ B hml hv
  obtain ⟨rfl, hsz, hP, hK, hD0⟩ := hv
  have hx := B.exec
  have hb := B.bytes
  have hr := B.returns
  have hts := atoms_spec (ws := wsX6_keep) B.pre
  have hown : s.vm.findClass RX6 = some m.cls := findClass_of_methodNamed B.named
  have hlocks := B.notSynchronized
  clear B
  subst hsz
  have hw0 := hts (.fieldLink RX6 43 "ShorthandCourtModel" "isKept" "[Z") (by decide +kernel)
  have hw1 := hts (.fieldLink RX6 16 "ShorthandCourtModel" "now" "[I") (by decide +kernel)
  have hw2 := hts (.fieldLink RX6 47 "ShorthandCourtModel" "kept" "[I") (by decide +kernel)
  have hinX6 : ∀ w ∈ u_ws RX6 TX6 19, w ∈ wsX6_keep := by decide +kernel
  have hD := hD0.self (sz := s.heap.size)
  clear hD0
  generalize hAe : va_A [(ht, .inr (5, [.int vt_clerks, .ref ht_drops, .ref ht_tires, .ref ht_now, .ref ht_told, .ref ht_text, .int vt_length, .ref ht_pages, .int vt_acts, .int vt_next, .ref ht_row, .int vt_found, .ref ht_alike, .ref ht_table, .ref ht_keys, .ref ht_own, .long vt_seed, .ref ht_isKept, .ref ht_kept])), (ht_now, .inl (cI, 13, .inl vt_now)), (ht_isKept, .inl (cZ, 2, .inl vt_isKept)), (ht_kept, .inl (cI, 26, .inl vt_kept))] s.heap.size = A at hD ⊢
  have hA : ∀ q : Nat, s.heap.size ≤ q → A q := fun q h => by rw [← hAe]; exact Or.inr h
  clear hAe
  have hS : va_S A s.heap s.heap [] := va_S.rf
  have hl := lv_entry ([.ref ht, .int a1]) (n := 3) (Nat.le_of_ble_eq_true rfl)
  rw [lg_entry_eq]
  generalize (lg_sl ([.ref ht, .int a1]) ++ List.replicate (3 - (lg_sl ([.ref ht, .int a1])).length) Slot.unset).toArray = ls at hl ⊢
  have hl : lv_has ls 3 [(0, .ref ht), (1, .int a1)] := hl
  unfold f_X6_keep at hf
  refine lv_iload_n hx hb dX6_keep_0 rfl (lv_at hl 1 rfl) ?_
  refine lv_i2l hx hb dX6_keep_1 rfl ?_
  refine lv_lconst (v := 0) hx hb dX6_keep_2 (by decide) ?_
  refine lv_lconst (v := 1) hx hb dX6_keep_3 (by decide) ?_
  obtain ⟨x1, hx1, hf⟩ := dg_bind hf
  have hPc : va_P (dC, dI) vwCl [] s.heap := hP.sub [] rfl
  have hDc : va_D A [] := hD.sub [] (by decide) rfl
  have hFc := va_free (wc := []) hD hS hA [] rfl
  refine va_calli (va_runS (As := [.long a1.toInt64, .long (0:Int64), .long (1:Int64)]) (rest := []) ⟨hx, hb, hml, hown, hts⟩ (k_X6_in l dC dI cI cJ cZ s.heap.size a1.toInt64 (0:Int64) (1:Int64) N x1 hx1) (va_cwS 3 hts gX6_keep_X6_in rfl rfl rfl hd_X6_in ⟨Nat.le_of_ble_eq_true rfl, Nat.le_of_ble_eq_true rfl⟩) ⟨blind_pc, pre_pc hPc hK hDc⟩ rfl rfl hl.1 rfl (lv_room (Nat.le_of_ble_eq_true rfl)) dX6_keep_4 ⟨Nat.zero_le _, Nat.zero_le _⟩) hS (fun q _ h => hFc q h) hFc (fun r u t H1 locs eth hvm hw hB hz1 hk1 hS => ?_)
  obtain ⟨hP1, hK1, hD1⟩ := hB
  rw [eth] at hP1
  subst hw
  obtain ⟨hP, hD⟩ := va_join (wr := [(ht, .inr (5, [.int vt_clerks, .ref ht_drops, .ref ht_tires, .ref ht_now, .ref ht_told, .ref ht_text, .int vt_length, .ref ht_pages, .int vt_acts, .int vt_next, .ref ht_row, .int vt_found, .ref ht_alike, .ref ht_table, .ref ht_keys, .ref ht_own, .long vt_seed, .ref ht_isKept, .ref ht_kept])), (ht_now, .inl (cI, 13, .inl vt_now)), (ht_isKept, .inl (cZ, 2, .inl vt_isKept)), (ht_kept, .inl (cI, 26, .inl vt_kept))]) (w1 := []) hP hD [] [0, 1, 2, 3] rfl rfl (by decide) (by decide) hk1 hFc hP1 hD1
  clear hP1 hK1 hD1 hPc hDc hFc hk1 hz1 hvm eth
  generalize H1 = H at hP hS ⊢
  have hP : va_P (dC, dI) vwCl [(ht, .inr (5, [.int vt_clerks, .ref ht_drops, .ref ht_tires, .ref ht_now, .ref ht_told, .ref ht_text, .int vt_length, .ref ht_pages, .int vt_acts, .int vt_next, .ref ht_row, .int vt_found, .ref ht_alike, .ref ht_table, .ref ht_keys, .ref ht_own, .long vt_seed, .ref ht_isKept, .ref ht_kept])), (ht_now, .inl (cI, 13, .inl vt_now)), (ht_isKept, .inl (cZ, 2, .inl vt_isKept)), (ht_kept, .inl (cI, 26, .inl vt_kept))] H := hP
  have hD : va_D A [(ht, .inr (5, [.int vt_clerks, .ref ht_drops, .ref ht_tires, .ref ht_now, .ref ht_told, .ref ht_text, .int vt_length, .ref ht_pages, .int vt_acts, .int vt_next, .ref ht_row, .int vt_found, .ref ht_alike, .ref ht_table, .ref ht_keys, .ref ht_own, .long vt_seed, .ref ht_isKept, .ref ht_kept])), (ht_now, .inl (cI, 13, .inl vt_now)), (ht_isKept, .inl (cZ, 2, .inl vt_isKept)), (ht_kept, .inl (cI, 26, .inl vt_kept))] := hD
  refine lv_if_ne (tgt := 12) hx hb dX6_keep_7 (by decide) (fun c2 => ?_) (fun c2 => ?_)
  · replace hf := dg_f c2 hf
    refine lv_aload_n hx hb dX6_keep_12 rfl (lv_at hl 0 rfl) ?_
    refine va_get (D := (dC, dI)) (ci := 5) (v := .ref ht_isKept) (C := RX6) (T := TX6) (N := 19) hx hb hts hinX6 hown hK hP 0 rfl rfl 17 (by decide) hw0 (fun _ h9 => h9) rfl dX6_keep_13 ?_
    refine lv_iload_n hx hb dX6_keep_16 rfl (lv_at hl 1 rfl) ?_
    refine lv_iconst (v := 1) hx hb dX6_keep_17 (by decide) ?_
    obtain ⟨hi3, hf⟩ := dg_ix hf
    refine va_zast hx hb hK hP hD hS 2 2 rfl rfl hi3 dX6_keep_18 (fun H locs hP hD hS => ?_)
    have hP : va_P (dC, dI) vwCl [(ht, .inr (5, [.int vt_clerks, .ref ht_drops, .ref ht_tires, .ref ht_now, .ref ht_told, .ref ht_text, .int vt_length, .ref ht_pages, .int vt_acts, .int vt_next, .ref ht_row, .int vt_found, .ref ht_alike, .ref ht_table, .ref ht_keys, .ref ht_own, .long vt_seed, .ref ht_isKept, .ref ht_kept])), (ht_now, .inl (cI, 13, .inl vt_now)), (ht_isKept, .inl (cZ, 2, .inl (upd vt_isKept a1.toNatClampNeg (1:Int32)))), (ht_kept, .inl (cI, 26, .inl vt_kept))] H := hP
    have hD : va_D A [(ht, .inr (5, [.int vt_clerks, .ref ht_drops, .ref ht_tires, .ref ht_now, .ref ht_told, .ref ht_text, .int vt_length, .ref ht_pages, .int vt_acts, .int vt_next, .ref ht_row, .int vt_found, .ref ht_alike, .ref ht_table, .ref ht_keys, .ref ht_own, .long vt_seed, .ref ht_isKept, .ref ht_kept])), (ht_now, .inl (cI, 13, .inl vt_now)), (ht_isKept, .inl (cZ, 2, .inl (upd vt_isKept a1.toNatClampNeg (1:Int32)))), (ht_kept, .inl (cI, 26, .inl vt_kept))] := hD
    refine lv_iconst (v := 0) hx hb dX6_keep_19 (by decide) ?_
    refine lv_istore_n (lv' := [(2, .int (0:Int32)), (0, .ref ht), (1, .int a1)]) hx hb dX6_keep_20 rfl hl (by decide) rfl (fun ls hl => ?_)
    have ex21 : ∀ (z2_21 : Int32) (zvt_kept_21 : (Nat → Int32)) (H : Heap) (locs : List Loc) (ls : Array Slot), va_P (dC, dI) vwCl [(ht, .inr (5, [.int vt_clerks, .ref ht_drops, .ref ht_tires, .ref ht_now, .ref ht_told, .ref ht_text, .int vt_length, .ref ht_pages, .int vt_acts, .int vt_next, .ref ht_row, .int vt_found, .ref ht_alike, .ref ht_table, .ref ht_keys, .ref ht_own, .long vt_seed, .ref ht_isKept, .ref ht_kept])), (ht_now, .inl (cI, 13, .inl vt_now)), (ht_isKept, .inl (cZ, 2, .inl (upd vt_isKept a1.toNatClampNeg (1:Int32)))), (ht_kept, .inl (cI, 26, .inl zvt_kept_21))] H → va_D A [(ht, .inr (5, [.int vt_clerks, .ref ht_drops, .ref ht_tires, .ref ht_now, .ref ht_told, .ref ht_text, .int vt_length, .ref ht_pages, .int vt_acts, .int vt_next, .ref ht_row, .int vt_found, .ref ht_alike, .ref ht_table, .ref ht_keys, .ref ht_own, .long vt_seed, .ref ht_isKept, .ref ht_kept])), (ht_now, .inl (cI, 13, .inl vt_now)), (ht_isKept, .inl (cZ, 2, .inl (upd vt_isKept a1.toNatClampNeg (1:Int32)))), (ht_kept, .inl (cI, 26, .inl zvt_kept_21))] → va_S A s.heap H locs → lv_has ls 3 [(2, .int z2_21), (0, .ref ht), (1, .int a1)] → ((f_X6_wordsOf N (vt_now 0)).bind (fun x4 => some (x4, ((upd vt_isKept a1.toNatClampNeg (1:Int32)), zvt_kept_21)))) = some R → W p l e (rm_X6_keep) s m ([.ref ht, .int a1] : List Value).toArray below meth c H locs 0 0 (MQ below (q_X6_keep dC dI cI cJ cZ ht ht_drops ht_tires ht_now ht_told ht_text ht_pages ht_row ht_alike ht_table ht_keys ht_own ht_isKept ht_kept vt_clerks vt_length vt_acts vt_next vt_found vt_seed vt_now R A) ([.ref ht, .int a1] : List Value).toArray s 0 0 A) (F0 m 50 ls []) := by
      intro z2_21 zvt_kept_21 H locs ls hP hD hS hl hf
      refine lv_aload_n hx hb dX6_keep_50 rfl (lv_at hl 1 rfl) ?_
      refine va_get (D := (dC, dI)) (ci := 5) (v := .ref ht_now) (C := RX6) (T := TX6) (N := 19) hx hb hts hinX6 hown hK hP 0 rfl rfl 3 (by decide) hw1 (fun _ h9 => h9) rfl dX6_keep_51 ?_
      refine lv_iconst (v := 0) hx hb dX6_keep_54 (by decide) ?_
      refine va_iald hx hb hK hP 1 0 rfl rfl (vp_in_iff.mpr (by decide)) dX6_keep_55 ?_
      refine W.eq (g2 := F0 m 56 ls [.int (vt_now 0)]) rfl ?_
      obtain ⟨x4, hx4, hf⟩ := dg_bind hf
      have hPc : va_P (dC, dI) vwCl [] H := hP.sub [] rfl
      have hDc : va_D A [] := hD.sub [] (by decide) rfl
      have hFc := va_free (wc := []) hD hS hA [] rfl
      refine va_calli (va_runS (As := [.int (vt_now 0)]) (rest := []) ⟨hx, hb, hml, hown, hts⟩ (k_X6_wordsOf l dC dI cI cJ cZ H.size (vt_now 0) N x4 hx4) (va_cwS 1 hts gX6_keep_X6_wordsOf rfl rfl rfl hd_X6_wordsOf ⟨Nat.le_of_ble_eq_true rfl, Nat.le_of_ble_eq_true rfl⟩) ⟨blind_pc, pre_pc hPc hK hDc⟩ rfl rfl hl.1 rfl (lv_room (Nat.le_of_ble_eq_true rfl)) dX6_keep_56 ⟨Nat.zero_le _, Nat.zero_le _⟩) hS (fun q _ h => hFc q h) hFc (fun r u t H1 locs eth hvm hw hB hz1 hk1 hS => ?_)
      obtain ⟨hP1, hK1, hD1⟩ := hB
      rw [eth] at hP1
      subst hw
      obtain ⟨hP, hD⟩ := va_join (wr := [(ht, .inr (5, [.int vt_clerks, .ref ht_drops, .ref ht_tires, .ref ht_now, .ref ht_told, .ref ht_text, .int vt_length, .ref ht_pages, .int vt_acts, .int vt_next, .ref ht_row, .int vt_found, .ref ht_alike, .ref ht_table, .ref ht_keys, .ref ht_own, .long vt_seed, .ref ht_isKept, .ref ht_kept])), (ht_now, .inl (cI, 13, .inl vt_now)), (ht_isKept, .inl (cZ, 2, .inl (upd vt_isKept a1.toNatClampNeg (1:Int32)))), (ht_kept, .inl (cI, 26, .inl zvt_kept_21))]) (w1 := []) hP hD [] [0, 1, 2, 3] rfl rfl (by decide) (by decide) hk1 hFc hP1 hD1
      clear hP1 hK1 hD1 hPc hDc hFc hk1 hz1 hvm eth
      generalize H1 = H at hP hS ⊢
      have hP : va_P (dC, dI) vwCl [(ht, .inr (5, [.int vt_clerks, .ref ht_drops, .ref ht_tires, .ref ht_now, .ref ht_told, .ref ht_text, .int vt_length, .ref ht_pages, .int vt_acts, .int vt_next, .ref ht_row, .int vt_found, .ref ht_alike, .ref ht_table, .ref ht_keys, .ref ht_own, .long vt_seed, .ref ht_isKept, .ref ht_kept])), (ht_now, .inl (cI, 13, .inl vt_now)), (ht_isKept, .inl (cZ, 2, .inl (upd vt_isKept a1.toNatClampNeg (1:Int32)))), (ht_kept, .inl (cI, 26, .inl zvt_kept_21))] H := hP
      have hD : va_D A [(ht, .inr (5, [.int vt_clerks, .ref ht_drops, .ref ht_tires, .ref ht_now, .ref ht_told, .ref ht_text, .int vt_length, .ref ht_pages, .int vt_acts, .int vt_next, .ref ht_row, .int vt_found, .ref ht_alike, .ref ht_table, .ref ht_keys, .ref ht_own, .long vt_seed, .ref ht_isKept, .ref ht_kept])), (ht_now, .inl (cI, 13, .inl vt_now)), (ht_isKept, .inl (cZ, 2, .inl (upd vt_isKept a1.toNatClampNeg (1:Int32)))), (ht_kept, .inl (cI, 26, .inl zvt_kept_21))] := hD
      have he := Option.some.inj hf
      have hP9 := hP
      have hD9 := hD
      exact W.iret (v := x4) hx hb hr (fun t eth hW => ⟨⟨x4, ((upd vt_isKept a1.toNatClampNeg (1:Int32)), zvt_kept_21), rfl, ⟨(congrArg Prod.fst he).symm, (congrArg Prod.snd he).symm⟩, by rw [eth]; exact hP9, va_K.moved hW.alike hK, hD9⟩, hS.F eth⟩) hS.2.2 dX6_keep_59
    have lp21 : ∀ (n21 : Nat) (y2_21 : Int32) (yvt_kept_21 : (Nat → Int32)) (H : Heap) (locs : List Loc) (ls : Array Slot), va_P (dC, dI) vwCl [(ht, .inr (5, [.int vt_clerks, .ref ht_drops, .ref ht_tires, .ref ht_now, .ref ht_told, .ref ht_text, .int vt_length, .ref ht_pages, .int vt_acts, .int vt_next, .ref ht_row, .int vt_found, .ref ht_alike, .ref ht_table, .ref ht_keys, .ref ht_own, .long vt_seed, .ref ht_isKept, .ref ht_kept])), (ht_now, .inl (cI, 13, .inl vt_now)), (ht_isKept, .inl (cZ, 2, .inl (upd vt_isKept a1.toNatClampNeg (1:Int32)))), (ht_kept, .inl (cI, 26, .inl yvt_kept_21))] H → va_D A [(ht, .inr (5, [.int vt_clerks, .ref ht_drops, .ref ht_tires, .ref ht_now, .ref ht_told, .ref ht_text, .int vt_length, .ref ht_pages, .int vt_acts, .int vt_next, .ref ht_row, .int vt_found, .ref ht_alike, .ref ht_table, .ref ht_keys, .ref ht_own, .long vt_seed, .ref ht_isKept, .ref ht_kept])), (ht_now, .inl (cI, 13, .inl vt_now)), (ht_isKept, .inl (cZ, 2, .inl (upd vt_isKept a1.toNatClampNeg (1:Int32)))), (ht_kept, .inl (cI, 26, .inl yvt_kept_21))] → va_S A s.heap H locs → lv_has ls 3 [(2, .int y2_21), (0, .ref ht), (1, .int a1)] → f_X6_keep_21 N a1 vt_now (fun z2_21 zvt_kept_21 => (f_X6_wordsOf N (vt_now 0)).bind (fun x4 => some (x4, ((upd vt_isKept a1.toNatClampNeg (1:Int32)), zvt_kept_21)))) n21 y2_21 yvt_kept_21 = some R → W p l e (rm_X6_keep) s m ([.ref ht, .int a1] : List Value).toArray below meth c H locs 0 0 (MQ below (q_X6_keep dC dI cI cJ cZ ht ht_drops ht_tires ht_now ht_told ht_text ht_pages ht_row ht_alike ht_table ht_keys ht_own ht_isKept ht_kept vt_clerks vt_length vt_acts vt_next vt_found vt_seed vt_now R A) ([.ref ht, .int a1] : List Value).toArray s 0 0 A) (F0 m 21 ls []) := by
      intro n21
      induction n21 with
      | zero => intro y2_21 yvt_kept_21 H locs ls hP hD hS hl hf; rw [f_X6_keep_21] at hf; cases hf
      | succ n21 ih21 =>
        intro y2_21 yvt_kept_21 H locs ls hP hD hS hl hf
        rw [f_X6_keep_21] at hf
        refine lv_iload_n hx hb dX6_keep_21 rfl (lv_at hl 0 rfl) ?_
        refine lv_bipush (v := 13) hx hb dX6_keep_22 (by decide) ?_
        refine lv_icmp_ge (tgt := 50) hx hb dX6_keep_24 (by decide) (fun c5 => ?_) (fun c5 => ?_)
        · replace hf := dg_t c5 hf
          exact ex21 y2_21 yvt_kept_21 _ _ _ hP hD hS (lv_sub hl [0, 1, 2] rfl) hf
        · replace hf := dg_f c5 hf
          refine lv_aload_n hx hb dX6_keep_27 rfl (lv_at hl 1 rfl) ?_
          refine va_get (D := (dC, dI)) (ci := 5) (v := .ref ht_kept) (C := RX6) (T := TX6) (N := 19) hx hb hts hinX6 hown hK hP 0 rfl rfl 18 (by decide) hw2 (fun _ h9 => h9) rfl dX6_keep_28 ?_
          refine lv_bipush (v := 13) hx hb dX6_keep_31 (by decide) ?_
          refine lv_iload_n hx hb dX6_keep_33 rfl (lv_at hl 2 rfl) ?_
          refine lv_imul hx hb dX6_keep_34 ?_
          refine lv_iload_n hx hb dX6_keep_35 rfl (lv_at hl 0 rfl) ?_
          refine lv_iadd hx hb dX6_keep_36 ?_
          refine lv_aload_n hx hb dX6_keep_37 rfl (lv_at hl 1 rfl) ?_
          refine va_get (D := (dC, dI)) (ci := 5) (v := .ref ht_now) (C := RX6) (T := TX6) (N := 19) hx hb hts hinX6 hown hK hP 0 rfl rfl 3 (by decide) hw1 (fun _ h9 => h9) rfl dX6_keep_38 ?_
          refine lv_iload_n hx hb dX6_keep_41 rfl (lv_at hl 0 rfl) ?_
          obtain ⟨hi6, hf⟩ := dg_ix hf
          refine va_iald hx hb hK hP 1 0 rfl rfl hi6 dX6_keep_42 ?_
          obtain ⟨hi7, hf⟩ := dg_ix hf
          refine va_iast hx hb hK hP hD hS 3 0 rfl rfl hi7 dX6_keep_43 (fun H locs hP hD hS => ?_)
          have hP : va_P (dC, dI) vwCl [(ht, .inr (5, [.int vt_clerks, .ref ht_drops, .ref ht_tires, .ref ht_now, .ref ht_told, .ref ht_text, .int vt_length, .ref ht_pages, .int vt_acts, .int vt_next, .ref ht_row, .int vt_found, .ref ht_alike, .ref ht_table, .ref ht_keys, .ref ht_own, .long vt_seed, .ref ht_isKept, .ref ht_kept])), (ht_now, .inl (cI, 13, .inl vt_now)), (ht_isKept, .inl (cZ, 2, .inl (upd vt_isKept a1.toNatClampNeg (1:Int32)))), (ht_kept, .inl (cI, 26, .inl (upd yvt_kept_21 (((13:Int32) * a1) + y2_21).toNatClampNeg (vt_now y2_21.toNatClampNeg))))] H := hP
          have hD : va_D A [(ht, .inr (5, [.int vt_clerks, .ref ht_drops, .ref ht_tires, .ref ht_now, .ref ht_told, .ref ht_text, .int vt_length, .ref ht_pages, .int vt_acts, .int vt_next, .ref ht_row, .int vt_found, .ref ht_alike, .ref ht_table, .ref ht_keys, .ref ht_own, .long vt_seed, .ref ht_isKept, .ref ht_kept])), (ht_now, .inl (cI, 13, .inl vt_now)), (ht_isKept, .inl (cZ, 2, .inl (upd vt_isKept a1.toNatClampNeg (1:Int32)))), (ht_kept, .inl (cI, 26, .inl (upd yvt_kept_21 (((13:Int32) * a1) + y2_21).toNatClampNeg (vt_now y2_21.toNatClampNeg))))] := hD
          refine lv_iinc (v := (y2_21 + (1:Int32))) (lv' := [(2, .int (y2_21 + (1:Int32))), (0, .ref ht), (1, .int a1)]) hx hb dX6_keep_44 hl (k := 0) rfl (by first | rfl | decide) (by decide) rfl (fun ls hl => ?_)
          refine lv_goto (tgt := 21) hx hb dX6_keep_47 (by decide) ?_
          exact ih21 (y2_21 + (1:Int32)) (upd yvt_kept_21 (((13:Int32) * a1) + y2_21).toNatClampNeg (vt_now y2_21.toNatClampNeg)) _ _ _ hP hD hS (lv_sub hl [0, 1, 2] rfl) hf
    exact lp21 N (0:Int32) vt_kept _ _ _ hP hD hS hl hf
  · replace hf := dg_t c2 hf
    refine lv_iconst (v := -1) hx hb dX6_keep_10 (by decide) ?_
    have he := Option.some.inj hf
    have hP9 := hP
    have hD9 := hD
    exact W.iret (v := (-1:Int32)) hx hb hr (fun t eth hW => ⟨⟨(-1:Int32), (vt_isKept, vt_kept), rfl, ⟨(congrArg Prod.fst he).symm, (congrArg Prod.snd he).symm⟩, by rw [eth]; exact hP9, va_K.moved hW.alike hK, hD9⟩, hS.F eth⟩) hS.2.2 dX6_keep_11
theorem hd_X6_again : yX6_again.cls = RX6 ∧ yX6_again.cls ≠ "java/lang/invoke/MethodHandle" ∧ yX6_again.cls ≠ "java/lang/invoke/VarHandle" ∧ (parseMethodDescriptor yX6_again.desc).map (fun d => d.parameters.length) = some 1 := by decide +kernel
abbrev rm_X6_again : Room := { frames := 1, cells := 0, slots := 0, locals := 25 }
abbrev q_X6_again (dC : Nat → ClassId) (dI : Nat → Nat → Nat) (cI cJ cZ : ClassId) (ht ht_drops ht_tires ht_now ht_told ht_text ht_pages ht_row ht_alike ht_table ht_keys ht_own ht_isKept ht_kept : Nat) (vt_clerks : Int32) (vt_length : Int32) (vt_next : Int32) (vt_found : Int32) (vt_seed : Int64) (vt_isKept : Nat → Int32) (vt_kept : Nat → Int32) (R : Int32 × Int32 × (Nat → Int32)) (A : Nat → Prop) : Array Value → State → Outcome → State → Prop := va_Qi (fun (r : Int32) (u : Int32 × (Nat → Int32)) => R.1 = r ∧ R.2 = u) (fun (u : Int32 × (Nat → Int32)) (t : State) => va_P (dC, dI) vwCl [(ht, .inr (5, [.int vt_clerks, .ref ht_drops, .ref ht_tires, .ref ht_now, .ref ht_told, .ref ht_text, .int vt_length, .ref ht_pages, .int u.1, .int vt_next, .ref ht_row, .int vt_found, .ref ht_alike, .ref ht_table, .ref ht_keys, .ref ht_own, .long vt_seed, .ref ht_isKept, .ref ht_kept])), (ht_now, .inl (cI, 13, .inl u.2)), (ht_isKept, .inl (cZ, 2, .inl vt_isKept)), (ht_kept, .inl (cI, 26, .inl vt_kept))] t.heap ∧ va_K (dC, dI) vwCl [(cI, .int), (cJ, .long), (cZ, .boolean)] t ∧ va_D A [(ht, .inr (5, [.int vt_clerks, .ref ht_drops, .ref ht_tires, .ref ht_now, .ref ht_told, .ref ht_text, .int vt_length, .ref ht_pages, .int u.1, .int vt_next, .ref ht_row, .int vt_found, .ref ht_alike, .ref ht_table, .ref ht_keys, .ref ht_own, .long vt_seed, .ref ht_isKept, .ref ht_kept])), (ht_now, .inl (cI, 13, .inl u.2)), (ht_isKept, .inl (cZ, 2, .inl vt_isKept)), (ht_kept, .inl (cI, 26, .inl vt_kept))]) A
set_option maxHeartbeats 4000000 in
set_option maxRecDepth 100000 in
theorem k_X6_again (l : Launch) (dC : Nat → ClassId) (dI : Nat → Nat → Nat) (cI cJ cZ : ClassId) (sz : Nat) (ht ht_drops ht_tires ht_now ht_told ht_text ht_pages ht_row ht_alike ht_table ht_keys ht_own ht_isKept ht_kept : Nat) (a1 : Int32) (vt_clerks : Int32) (vt_length : Int32) (vt_acts : Int32) (vt_next : Int32) (vt_found : Int32) (vt_seed : Int64) (vt_now : Nat → Int32) (vt_isKept : Nat → Int32) (vt_kept : Nat → Int32) (N : Nat) (R : Int32 × Int32 × (Nat → Int32)) (hf : f_X6_again N a1 vt_acts vt_now vt_isKept vt_kept = some R) : Met l yX6_again wsX6_again (rm_X6_again) (va_Pc [.ref ht, .int a1] (fun U => U.heap.size = sz ∧ va_P (dC, dI) vwCl [(ht, .inr (5, [.int vt_clerks, .ref ht_drops, .ref ht_tires, .ref ht_now, .ref ht_told, .ref ht_text, .int vt_length, .ref ht_pages, .int vt_acts, .int vt_next, .ref ht_row, .int vt_found, .ref ht_alike, .ref ht_table, .ref ht_keys, .ref ht_own, .long vt_seed, .ref ht_isKept, .ref ht_kept])), (ht_now, .inl (cI, 13, .inl vt_now)), (ht_isKept, .inl (cZ, 2, .inl vt_isKept)), (ht_kept, .inl (cI, 26, .inl vt_kept))] U.heap ∧ va_K (dC, dI) vwCl [(cI, .int), (cJ, .long), (cZ, .boolean)] U ∧ va_D (fun _ => True) [(ht, .inr (5, [.int vt_clerks, .ref ht_drops, .ref ht_tires, .ref ht_now, .ref ht_told, .ref ht_text, .int vt_length, .ref ht_pages, .int vt_acts, .int vt_next, .ref ht_row, .int vt_found, .ref ht_alike, .ref ht_table, .ref ht_keys, .ref ht_own, .long vt_seed, .ref ht_isKept, .ref ht_kept])), (ht_now, .inl (cI, 13, .inl vt_now)), (ht_isKept, .inl (cZ, 2, .inl vt_isKept)), (ht_kept, .inl (cI, 26, .inl vt_kept))])) (q_X6_again dC dI cI cJ cZ ht ht_drops ht_tires ht_now ht_told ht_text ht_pages ht_row ht_alike ht_table ht_keys ht_own ht_isKept ht_kept vt_clerks vt_length vt_next vt_found vt_seed vt_isKept vt_kept R (va_A [(ht, .inr (5, [.int vt_clerks, .ref ht_drops, .ref ht_tires, .ref ht_now, .ref ht_told, .ref ht_text, .int vt_length, .ref ht_pages, .int vt_acts, .int vt_next, .ref ht_row, .int vt_found, .ref ht_alike, .ref ht_table, .ref ht_keys, .ref ht_own, .long vt_seed, .ref ht_isKept, .ref ht_kept])), (ht_now, .inl (cI, 13, .inl vt_now)), (ht_isKept, .inl (cZ, 2, .inl vt_isKept)), (ht_kept, .inl (cI, 26, .inl vt_kept))] sz)) 0 0 (va_A [(ht, .inr (5, [.int vt_clerks, .ref ht_drops, .ref ht_tires, .ref ht_now, .ref ht_told, .ref ht_text, .int vt_length, .ref ht_pages, .int vt_acts, .int vt_next, .ref ht_row, .int vt_found, .ref ht_alike, .ref ht_table, .ref ht_keys, .ref ht_own, .long vt_seed, .ref ht_isKept, .ref ht_kept])), (ht_now, .inl (cI, 13, .inl vt_now)), (ht_isKept, .inl (cZ, 2, .inl vt_isKept)), (ht_kept, .inl (cI, 26, .inl vt_kept))] sz) := by
  refine Met.ofW (cc := cX6_again) (maxL := 3) (ret := (some .int)) (by decide) rfl ?_
  intro p e s m args below meth c s₁ B hml hv
  obtain ⟨rfl, hsz, hP, hK, hD0⟩ := hv
  have hx := B.exec
  have hb := B.bytes
  have hr := B.returns
  have hts := atoms_spec (ws := wsX6_again) B.pre
  have hown : s.vm.findClass RX6 = some m.cls := findClass_of_methodNamed B.named
  have hlocks := B.notSynchronized
  clear B
  subst hsz
  have hw0 := hts (.fieldLink RX6 43 "ShorthandCourtModel" "isKept" "[Z") (by decide +kernel)
  have hw1 := hts (.fieldLink RX6 86 "ShorthandCourtModel" "acts" "I") (by decide +kernel)
  have hw2 := hts (.fieldLink RX6 16 "ShorthandCourtModel" "now" "[I") (by decide +kernel)
  have hw3 := hts (.fieldLink RX6 47 "ShorthandCourtModel" "kept" "[I") (by decide +kernel)
  have hinX6 : ∀ w ∈ u_ws RX6 TX6 19, w ∈ wsX6_again := by decide +kernel
  have hD := hD0.self (sz := s.heap.size)
  clear hD0
  generalize hAe : va_A [(ht, .inr (5, [.int vt_clerks, .ref ht_drops, .ref ht_tires, .ref ht_now, .ref ht_told, .ref ht_text, .int vt_length, .ref ht_pages, .int vt_acts, .int vt_next, .ref ht_row, .int vt_found, .ref ht_alike, .ref ht_table, .ref ht_keys, .ref ht_own, .long vt_seed, .ref ht_isKept, .ref ht_kept])), (ht_now, .inl (cI, 13, .inl vt_now)), (ht_isKept, .inl (cZ, 2, .inl vt_isKept)), (ht_kept, .inl (cI, 26, .inl vt_kept))] s.heap.size = A at hD ⊢
  have hA : ∀ q : Nat, s.heap.size ≤ q → A q := fun q h => by rw [← hAe]; exact Or.inr h
  clear hAe
  have hS : va_S A s.heap s.heap [] := va_S.rf
  have hl := lv_entry ([.ref ht, .int a1]) (n := 3) (Nat.le_of_ble_eq_true rfl)
  rw [lg_entry_eq]
  generalize (lg_sl ([.ref ht, .int a1]) ++ List.replicate (3 - (lg_sl ([.ref ht, .int a1])).length) Slot.unset).toArray = ls at hl ⊢
  have hl : lv_has ls 3 [(0, .ref ht), (1, .int a1)] := hl
  unfold f_X6_again at hf
  refine lv_iload_n hx hb dX6_again_0 rfl (lv_at hl 1 rfl) ?_
  refine lv_i2l hx hb dX6_again_1 rfl ?_
  refine lv_lconst (v := 0) hx hb dX6_again_2 (by decide) ?_
  refine lv_lconst (v := 1) hx hb dX6_again_3 (by decide) ?_
  obtain ⟨x1, hx1, hf⟩ := dg_bind hf
  have hPc : va_P (dC, dI) vwCl [] s.heap := hP.sub [] rfl
  have hDc : va_D A [] := hD.sub [] (by decide) rfl
  have hFc := va_free (wc := []) hD hS hA [] rfl
  refine va_calli (va_runS (As := [.long a1.toInt64, .long (0:Int64), .long (1:Int64)]) (rest := []) ⟨hx, hb, hml, hown, hts⟩ (k_X6_in l dC dI cI cJ cZ s.heap.size a1.toInt64 (0:Int64) (1:Int64) N x1 hx1) (va_cwS 3 hts gX6_again_X6_in rfl rfl rfl hd_X6_in ⟨Nat.le_of_ble_eq_true rfl, Nat.le_of_ble_eq_true rfl⟩) ⟨blind_pc, pre_pc hPc hK hDc⟩ rfl rfl hl.1 rfl (lv_room (Nat.le_of_ble_eq_true rfl)) dX6_again_4 ⟨Nat.zero_le _, Nat.zero_le _⟩) hS (fun q _ h => hFc q h) hFc (fun r u t H1 locs eth hvm hw hB hz1 hk1 hS => ?_)
  obtain ⟨hP1, hK1, hD1⟩ := hB
  rw [eth] at hP1
  subst hw
  obtain ⟨hP, hD⟩ := va_join (wr := [(ht, .inr (5, [.int vt_clerks, .ref ht_drops, .ref ht_tires, .ref ht_now, .ref ht_told, .ref ht_text, .int vt_length, .ref ht_pages, .int vt_acts, .int vt_next, .ref ht_row, .int vt_found, .ref ht_alike, .ref ht_table, .ref ht_keys, .ref ht_own, .long vt_seed, .ref ht_isKept, .ref ht_kept])), (ht_now, .inl (cI, 13, .inl vt_now)), (ht_isKept, .inl (cZ, 2, .inl vt_isKept)), (ht_kept, .inl (cI, 26, .inl vt_kept))]) (w1 := []) hP hD [] [0, 1, 2, 3] rfl rfl (by decide) (by decide) hk1 hFc hP1 hD1
  clear hP1 hK1 hD1 hPc hDc hFc hk1 hz1 hvm eth
  generalize H1 = H at hP hS ⊢
  have hP : va_P (dC, dI) vwCl [(ht, .inr (5, [.int vt_clerks, .ref ht_drops, .ref ht_tires, .ref ht_now, .ref ht_told, .ref ht_text, .int vt_length, .ref ht_pages, .int vt_acts, .int vt_next, .ref ht_row, .int vt_found, .ref ht_alike, .ref ht_table, .ref ht_keys, .ref ht_own, .long vt_seed, .ref ht_isKept, .ref ht_kept])), (ht_now, .inl (cI, 13, .inl vt_now)), (ht_isKept, .inl (cZ, 2, .inl vt_isKept)), (ht_kept, .inl (cI, 26, .inl vt_kept))] H := hP
  have hD : va_D A [(ht, .inr (5, [.int vt_clerks, .ref ht_drops, .ref ht_tires, .ref ht_now, .ref ht_told, .ref ht_text, .int vt_length, .ref ht_pages, .int vt_acts, .int vt_next, .ref ht_row, .int vt_found, .ref ht_alike, .ref ht_table, .ref ht_keys, .ref ht_own, .long vt_seed, .ref ht_isKept, .ref ht_kept])), (ht_now, .inl (cI, 13, .inl vt_now)), (ht_isKept, .inl (cZ, 2, .inl vt_isKept)), (ht_kept, .inl (cI, 26, .inl vt_kept))] := hD
  refine lv_if_ne (tgt := 12) hx hb dX6_again_7 (by decide) (fun c2 => ?_) (fun c2 => ?_)
  · replace hf := dg_f c2 hf
    refine lv_aload_n hx hb dX6_again_12 rfl (lv_at hl 0 rfl) ?_
    refine va_get (D := (dC, dI)) (ci := 5) (v := .ref ht_isKept) (C := RX6) (T := TX6) (N := 19) hx hb hts hinX6 hown hK hP 0 rfl rfl 17 (by decide) hw0 (fun _ h9 => h9) rfl dX6_again_13 ?_
    refine lv_iload_n hx hb dX6_again_16 rfl (lv_at hl 1 rfl) ?_
    obtain ⟨hi3, hf⟩ := dg_ix hf
    refine va_zald hx hb hK hP 2 2 rfl rfl hi3 dX6_again_17 ?_
    refine lv_if_ne (tgt := 24) hx hb dX6_again_18 (by decide) (fun c4 => ?_) (fun c4 => ?_)
    · replace hf := dg_f c4 hf
      refine lv_iconst (v := 0) hx hb dX6_again_24 (by decide) ?_
      refine lv_istore_n (lv' := [(2, .int (0:Int32)), (0, .ref ht), (1, .int a1)]) hx hb dX6_again_25 rfl hl (by decide) rfl (fun ls hl => ?_)
      have ex26 : ∀ (z2_26 : Int32) (zvt_now_26 : (Nat → Int32)) (H : Heap) (locs : List Loc) (ls : Array Slot), va_P (dC, dI) vwCl [(ht, .inr (5, [.int vt_clerks, .ref ht_drops, .ref ht_tires, .ref ht_now, .ref ht_told, .ref ht_text, .int vt_length, .ref ht_pages, .int vt_acts, .int vt_next, .ref ht_row, .int vt_found, .ref ht_alike, .ref ht_table, .ref ht_keys, .ref ht_own, .long vt_seed, .ref ht_isKept, .ref ht_kept])), (ht_now, .inl (cI, 13, .inl zvt_now_26)), (ht_isKept, .inl (cZ, 2, .inl vt_isKept)), (ht_kept, .inl (cI, 26, .inl vt_kept))] H → va_D A [(ht, .inr (5, [.int vt_clerks, .ref ht_drops, .ref ht_tires, .ref ht_now, .ref ht_told, .ref ht_text, .int vt_length, .ref ht_pages, .int vt_acts, .int vt_next, .ref ht_row, .int vt_found, .ref ht_alike, .ref ht_table, .ref ht_keys, .ref ht_own, .long vt_seed, .ref ht_isKept, .ref ht_kept])), (ht_now, .inl (cI, 13, .inl zvt_now_26)), (ht_isKept, .inl (cZ, 2, .inl vt_isKept)), (ht_kept, .inl (cI, 26, .inl vt_kept))] → va_S A s.heap H locs → lv_has ls 3 [(2, .int z2_26), (0, .ref ht), (1, .int a1)] → ((f_X6_wordsOf N (zvt_now_26 0)).bind (fun x5 => some (x5, ((0:Int32), zvt_now_26)))) = some R → W p l e (rm_X6_again) s m ([.ref ht, .int a1] : List Value).toArray below meth c H locs 0 0 (MQ below (q_X6_again dC dI cI cJ cZ ht ht_drops ht_tires ht_now ht_told ht_text ht_pages ht_row ht_alike ht_table ht_keys ht_own ht_isKept ht_kept vt_clerks vt_length vt_next vt_found vt_seed vt_isKept vt_kept R A) ([.ref ht, .int a1] : List Value).toArray s 0 0 A) (F0 m 55 ls []) := by
        intro z2_26 zvt_now_26 H locs ls hP hD hS hl hf
        refine lv_aload_n hx hb dX6_again_55 rfl (lv_at hl 1 rfl) ?_
        refine lv_iconst (v := 0) hx hb dX6_again_56 (by decide) ?_
        refine va_put (D := (dC, dI)) (ci := 5) (v := .int (0:Int32)) (ty := .int) (C := RX6) (T := TX6) (N := 19) hx hb hts hinX6 tyX6 tyX6_ok nmX6 hown hK hP hD hS 0 rfl rfl 8 (by decide) hw1 (fun _ h9 => h9) rfl (by decide +kernel) rfl rfl (Nat.le_of_ble_eq_true rfl) dX6_again_57 (fun H locs hP hD hS => ?_)
        have hP : va_P (dC, dI) vwCl [(ht, .inr (5, [.int vt_clerks, .ref ht_drops, .ref ht_tires, .ref ht_now, .ref ht_told, .ref ht_text, .int vt_length, .ref ht_pages, .int (0:Int32), .int vt_next, .ref ht_row, .int vt_found, .ref ht_alike, .ref ht_table, .ref ht_keys, .ref ht_own, .long vt_seed, .ref ht_isKept, .ref ht_kept])), (ht_now, .inl (cI, 13, .inl zvt_now_26)), (ht_isKept, .inl (cZ, 2, .inl vt_isKept)), (ht_kept, .inl (cI, 26, .inl vt_kept))] H := hP
        have hD : va_D A [(ht, .inr (5, [.int vt_clerks, .ref ht_drops, .ref ht_tires, .ref ht_now, .ref ht_told, .ref ht_text, .int vt_length, .ref ht_pages, .int (0:Int32), .int vt_next, .ref ht_row, .int vt_found, .ref ht_alike, .ref ht_table, .ref ht_keys, .ref ht_own, .long vt_seed, .ref ht_isKept, .ref ht_kept])), (ht_now, .inl (cI, 13, .inl zvt_now_26)), (ht_isKept, .inl (cZ, 2, .inl vt_isKept)), (ht_kept, .inl (cI, 26, .inl vt_kept))] := hD
        refine lv_aload_n hx hb dX6_again_60 rfl (lv_at hl 1 rfl) ?_
        refine va_get (D := (dC, dI)) (ci := 5) (v := .ref ht_now) (C := RX6) (T := TX6) (N := 19) hx hb hts hinX6 hown hK hP 0 rfl rfl 3 (by decide) hw2 (fun _ h9 => h9) rfl dX6_again_61 ?_
        refine lv_iconst (v := 0) hx hb dX6_again_64 (by decide) ?_
        refine va_iald hx hb hK hP 1 0 rfl rfl (vp_in_iff.mpr (by decide)) dX6_again_65 ?_
        refine W.eq (g2 := F0 m 66 ls [.int (zvt_now_26 0)]) rfl ?_
        obtain ⟨x5, hx5, hf⟩ := dg_bind hf
        have hPc : va_P (dC, dI) vwCl [] H := hP.sub [] rfl
        have hDc : va_D A [] := hD.sub [] (by decide) rfl
        have hFc := va_free (wc := []) hD hS hA [] rfl
        refine va_calli (va_runS (As := [.int (zvt_now_26 0)]) (rest := []) ⟨hx, hb, hml, hown, hts⟩ (k_X6_wordsOf l dC dI cI cJ cZ H.size (zvt_now_26 0) N x5 hx5) (va_cwS 1 hts gX6_again_X6_wordsOf rfl rfl rfl hd_X6_wordsOf ⟨Nat.le_of_ble_eq_true rfl, Nat.le_of_ble_eq_true rfl⟩) ⟨blind_pc, pre_pc hPc hK hDc⟩ rfl rfl hl.1 rfl (lv_room (Nat.le_of_ble_eq_true rfl)) dX6_again_66 ⟨Nat.zero_le _, Nat.zero_le _⟩) hS (fun q _ h => hFc q h) hFc (fun r u t H1 locs eth hvm hw hB hz1 hk1 hS => ?_)
        obtain ⟨hP1, hK1, hD1⟩ := hB
        rw [eth] at hP1
        subst hw
        obtain ⟨hP, hD⟩ := va_join (wr := [(ht, .inr (5, [.int vt_clerks, .ref ht_drops, .ref ht_tires, .ref ht_now, .ref ht_told, .ref ht_text, .int vt_length, .ref ht_pages, .int (0:Int32), .int vt_next, .ref ht_row, .int vt_found, .ref ht_alike, .ref ht_table, .ref ht_keys, .ref ht_own, .long vt_seed, .ref ht_isKept, .ref ht_kept])), (ht_now, .inl (cI, 13, .inl zvt_now_26)), (ht_isKept, .inl (cZ, 2, .inl vt_isKept)), (ht_kept, .inl (cI, 26, .inl vt_kept))]) (w1 := []) hP hD [] [0, 1, 2, 3] rfl rfl (by decide) (by decide) hk1 hFc hP1 hD1
        clear hP1 hK1 hD1 hPc hDc hFc hk1 hz1 hvm eth
        generalize H1 = H at hP hS ⊢
        have hP : va_P (dC, dI) vwCl [(ht, .inr (5, [.int vt_clerks, .ref ht_drops, .ref ht_tires, .ref ht_now, .ref ht_told, .ref ht_text, .int vt_length, .ref ht_pages, .int (0:Int32), .int vt_next, .ref ht_row, .int vt_found, .ref ht_alike, .ref ht_table, .ref ht_keys, .ref ht_own, .long vt_seed, .ref ht_isKept, .ref ht_kept])), (ht_now, .inl (cI, 13, .inl zvt_now_26)), (ht_isKept, .inl (cZ, 2, .inl vt_isKept)), (ht_kept, .inl (cI, 26, .inl vt_kept))] H := hP
        have hD : va_D A [(ht, .inr (5, [.int vt_clerks, .ref ht_drops, .ref ht_tires, .ref ht_now, .ref ht_told, .ref ht_text, .int vt_length, .ref ht_pages, .int (0:Int32), .int vt_next, .ref ht_row, .int vt_found, .ref ht_alike, .ref ht_table, .ref ht_keys, .ref ht_own, .long vt_seed, .ref ht_isKept, .ref ht_kept])), (ht_now, .inl (cI, 13, .inl zvt_now_26)), (ht_isKept, .inl (cZ, 2, .inl vt_isKept)), (ht_kept, .inl (cI, 26, .inl vt_kept))] := hD
        have he := Option.some.inj hf
        have hP9 := hP
        have hD9 := hD
        exact W.iret (v := x5) hx hb hr (fun t eth hW => ⟨⟨x5, ((0:Int32), zvt_now_26), rfl, ⟨(congrArg Prod.fst he).symm, (congrArg Prod.snd he).symm⟩, by rw [eth]; exact hP9, va_K.moved hW.alike hK, hD9⟩, hS.F eth⟩) hS.2.2 dX6_again_69
      have lp26 : ∀ (n26 : Nat) (y2_26 : Int32) (yvt_now_26 : (Nat → Int32)) (H : Heap) (locs : List Loc) (ls : Array Slot), va_P (dC, dI) vwCl [(ht, .inr (5, [.int vt_clerks, .ref ht_drops, .ref ht_tires, .ref ht_now, .ref ht_told, .ref ht_text, .int vt_length, .ref ht_pages, .int vt_acts, .int vt_next, .ref ht_row, .int vt_found, .ref ht_alike, .ref ht_table, .ref ht_keys, .ref ht_own, .long vt_seed, .ref ht_isKept, .ref ht_kept])), (ht_now, .inl (cI, 13, .inl yvt_now_26)), (ht_isKept, .inl (cZ, 2, .inl vt_isKept)), (ht_kept, .inl (cI, 26, .inl vt_kept))] H → va_D A [(ht, .inr (5, [.int vt_clerks, .ref ht_drops, .ref ht_tires, .ref ht_now, .ref ht_told, .ref ht_text, .int vt_length, .ref ht_pages, .int vt_acts, .int vt_next, .ref ht_row, .int vt_found, .ref ht_alike, .ref ht_table, .ref ht_keys, .ref ht_own, .long vt_seed, .ref ht_isKept, .ref ht_kept])), (ht_now, .inl (cI, 13, .inl yvt_now_26)), (ht_isKept, .inl (cZ, 2, .inl vt_isKept)), (ht_kept, .inl (cI, 26, .inl vt_kept))] → va_S A s.heap H locs → lv_has ls 3 [(2, .int y2_26), (0, .ref ht), (1, .int a1)] → f_X6_again_26 N a1 vt_kept (fun z2_26 zvt_now_26 => (f_X6_wordsOf N (zvt_now_26 0)).bind (fun x5 => some (x5, ((0:Int32), zvt_now_26)))) n26 y2_26 yvt_now_26 = some R → W p l e (rm_X6_again) s m ([.ref ht, .int a1] : List Value).toArray below meth c H locs 0 0 (MQ below (q_X6_again dC dI cI cJ cZ ht ht_drops ht_tires ht_now ht_told ht_text ht_pages ht_row ht_alike ht_table ht_keys ht_own ht_isKept ht_kept vt_clerks vt_length vt_next vt_found vt_seed vt_isKept vt_kept R A) ([.ref ht, .int a1] : List Value).toArray s 0 0 A) (F0 m 26 ls []) := by
        intro n26
        induction n26 with
        | zero => intro y2_26 yvt_now_26 H locs ls hP hD hS hl hf; rw [f_X6_again_26] at hf; cases hf
        | succ n26 ih26 =>
          intro y2_26 yvt_now_26 H locs ls hP hD hS hl hf
          rw [f_X6_again_26] at hf
          refine lv_iload_n hx hb dX6_again_26 rfl (lv_at hl 0 rfl) ?_
          refine lv_bipush (v := 13) hx hb dX6_again_27 (by decide) ?_
          refine lv_icmp_ge (tgt := 55) hx hb dX6_again_29 (by decide) (fun c6 => ?_) (fun c6 => ?_)
          · replace hf := dg_t c6 hf
            exact ex26 y2_26 yvt_now_26 _ _ _ hP hD hS (lv_sub hl [0, 1, 2] rfl) hf
          · replace hf := dg_f c6 hf
            refine lv_aload_n hx hb dX6_again_32 rfl (lv_at hl 1 rfl) ?_
            refine va_get (D := (dC, dI)) (ci := 5) (v := .ref ht_now) (C := RX6) (T := TX6) (N := 19) hx hb hts hinX6 hown hK hP 0 rfl rfl 3 (by decide) hw2 (fun _ h9 => h9) rfl dX6_again_33 ?_
            refine lv_iload_n hx hb dX6_again_36 rfl (lv_at hl 0 rfl) ?_
            refine lv_aload_n hx hb dX6_again_37 rfl (lv_at hl 1 rfl) ?_
            refine va_get (D := (dC, dI)) (ci := 5) (v := .ref ht_kept) (C := RX6) (T := TX6) (N := 19) hx hb hts hinX6 hown hK hP 0 rfl rfl 18 (by decide) hw3 (fun _ h9 => h9) rfl dX6_again_38 ?_
            refine lv_bipush (v := 13) hx hb dX6_again_41 (by decide) ?_
            refine lv_iload_n hx hb dX6_again_43 rfl (lv_at hl 2 rfl) ?_
            refine lv_imul hx hb dX6_again_44 ?_
            refine lv_iload_n hx hb dX6_again_45 rfl (lv_at hl 0 rfl) ?_
            refine lv_iadd hx hb dX6_again_46 ?_
            obtain ⟨hi7, hf⟩ := dg_ix hf
            refine va_iald hx hb hK hP 3 0 rfl rfl hi7 dX6_again_47 ?_
            obtain ⟨hi8, hf⟩ := dg_ix hf
            refine va_iast hx hb hK hP hD hS 1 0 rfl rfl hi8 dX6_again_48 (fun H locs hP hD hS => ?_)
            have hP : va_P (dC, dI) vwCl [(ht, .inr (5, [.int vt_clerks, .ref ht_drops, .ref ht_tires, .ref ht_now, .ref ht_told, .ref ht_text, .int vt_length, .ref ht_pages, .int vt_acts, .int vt_next, .ref ht_row, .int vt_found, .ref ht_alike, .ref ht_table, .ref ht_keys, .ref ht_own, .long vt_seed, .ref ht_isKept, .ref ht_kept])), (ht_now, .inl (cI, 13, .inl (upd yvt_now_26 y2_26.toNatClampNeg (vt_kept (((13:Int32) * a1) + y2_26).toNatClampNeg)))), (ht_isKept, .inl (cZ, 2, .inl vt_isKept)), (ht_kept, .inl (cI, 26, .inl vt_kept))] H := hP
            have hD : va_D A [(ht, .inr (5, [.int vt_clerks, .ref ht_drops, .ref ht_tires, .ref ht_now, .ref ht_told, .ref ht_text, .int vt_length, .ref ht_pages, .int vt_acts, .int vt_next, .ref ht_row, .int vt_found, .ref ht_alike, .ref ht_table, .ref ht_keys, .ref ht_own, .long vt_seed, .ref ht_isKept, .ref ht_kept])), (ht_now, .inl (cI, 13, .inl (upd yvt_now_26 y2_26.toNatClampNeg (vt_kept (((13:Int32) * a1) + y2_26).toNatClampNeg)))), (ht_isKept, .inl (cZ, 2, .inl vt_isKept)), (ht_kept, .inl (cI, 26, .inl vt_kept))] := hD
            refine lv_iinc (v := (y2_26 + (1:Int32))) (lv' := [(2, .int (y2_26 + (1:Int32))), (0, .ref ht), (1, .int a1)]) hx hb dX6_again_49 hl (k := 0) rfl (by first | rfl | decide) (by decide) rfl (fun ls hl => ?_)
            refine lv_goto (tgt := 26) hx hb dX6_again_52 (by decide) ?_
            exact ih26 (y2_26 + (1:Int32)) (upd yvt_now_26 y2_26.toNatClampNeg (vt_kept (((13:Int32) * a1) + y2_26).toNatClampNeg)) _ _ _ hP hD hS (lv_sub hl [0, 1, 2] rfl) hf
      exact lp26 N (0:Int32) vt_now _ _ _ hP hD hS hl hf
    · replace hf := dg_t c4 hf
      refine lv_bipush (v := -3) hx hb dX6_again_21 (by decide) ?_
      have he := Option.some.inj hf
      have hP9 := hP
      have hD9 := hD
      exact W.iret (v := (-3:Int32)) hx hb hr (fun t eth hW => ⟨⟨(-3:Int32), (vt_acts, vt_now), rfl, ⟨(congrArg Prod.fst he).symm, (congrArg Prod.snd he).symm⟩, by rw [eth]; exact hP9, va_K.moved hW.alike hK, hD9⟩, hS.F eth⟩) hS.2.2 dX6_again_23
  · replace hf := dg_t c2 hf
    refine lv_iconst (v := -1) hx hb dX6_again_10 (by decide) ?_
    have he := Option.some.inj hf
    have hP9 := hP
    have hD9 := hD
    exact W.iret (v := (-1:Int32)) hx hb hr (fun t eth hW => ⟨⟨(-1:Int32), (vt_acts, vt_now), rfl, ⟨(congrArg Prod.fst he).symm, (congrArg Prod.snd he).symm⟩, by rw [eth]; exact hP9, va_K.moved hW.alike hK, hD9⟩, hS.F eth⟩) hS.2.2 dX6_again_11
