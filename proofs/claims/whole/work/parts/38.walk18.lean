theorem hd_X6_fitsWith : yX6_fitsWith.cls = RX6 ∧ yX6_fitsWith.cls ≠ "java/lang/invoke/MethodHandle" ∧ yX6_fitsWith.cls ≠ "java/lang/invoke/VarHandle" ∧ (parseMethodDescriptor yX6_fitsWith.desc).map (fun d => d.parameters.length) = some 3 := by decide +kernel
abbrev rm_X6_fitsWith : Room := { frames := 5, cells := 0, slots := 0, locals := 116 }
abbrev q_X6_fitsWith (dC : Nat → ClassId) (dI : Nat → Nat → Nat) (cI cJ cZ : ClassId) (ht ht_drops ht_tires ht_now ht_told ht_text ht_pages ht_row ht_alike ht_table ht_keys ht_own ht_isKept ht_kept : Nat) (vt_clerks : Int32) (vt_length : Int32) (vt_acts : Int32) (vt_next : Int32) (vt_found : Int32) (vt_seed : Int64) (vt_drops : Nat → Int32) (vt_tires : Nat → Int32) (vt_now : Nat → Int32) (vt_told : Nat → Int32) (R : Int32 × (Nat → Int32)) (A : Nat → Prop) : Array Value → State → Outcome → State → Prop := va_Qi (fun (r : Int32) (u : (Nat → Int32)) => R.1 = r ∧ R.2 = u) (fun (u : (Nat → Int32)) (t : State) => va_P (dC, dI) vwCl [(ht, .inr (5, [.int vt_clerks, .ref ht_drops, .ref ht_tires, .ref ht_now, .ref ht_told, .ref ht_text, .int vt_length, .ref ht_pages, .int vt_acts, .int vt_next, .ref ht_row, .int vt_found, .ref ht_alike, .ref ht_table, .ref ht_keys, .ref ht_own, .long vt_seed, .ref ht_isKept, .ref ht_kept])), (ht_drops, .inl (cI, 4, .inl vt_drops)), (ht_tires, .inl (cI, 4, .inl vt_tires)), (ht_now, .inl (cI, 13, .inl vt_now)), (ht_told, .inl (cI, 4, .inl vt_told)), (ht_pages, .inl (cI, 4, .inl u))] t.heap ∧ va_K (dC, dI) vwCl [(cI, .int), (cJ, .long), (cZ, .boolean)] t ∧ va_D A [(ht, .inr (5, [.int vt_clerks, .ref ht_drops, .ref ht_tires, .ref ht_now, .ref ht_told, .ref ht_text, .int vt_length, .ref ht_pages, .int vt_acts, .int vt_next, .ref ht_row, .int vt_found, .ref ht_alike, .ref ht_table, .ref ht_keys, .ref ht_own, .long vt_seed, .ref ht_isKept, .ref ht_kept])), (ht_drops, .inl (cI, 4, .inl vt_drops)), (ht_tires, .inl (cI, 4, .inl vt_tires)), (ht_now, .inl (cI, 13, .inl vt_now)), (ht_told, .inl (cI, 4, .inl vt_told)), (ht_pages, .inl (cI, 4, .inl u))]) A
set_option maxHeartbeats 4000000 in
set_option maxRecDepth 100000 in
theorem k_X6_fitsWith (l : Launch) (dC : Nat → ClassId) (dI : Nat → Nat → Nat) (cI cJ cZ : ClassId) (sz : Nat) (ht ht_drops ht_tires ht_now ht_told ht_text ht_pages ht_row ht_alike ht_table ht_keys ht_own ht_isKept ht_kept : Nat) (a1 : Int32) (a2 : Int32) (a3 : Int32) (vt_clerks : Int32) (vt_length : Int32) (vt_acts : Int32) (vt_next : Int32) (vt_found : Int32) (vt_seed : Int64) (vt_drops : Nat → Int32) (vt_tires : Nat → Int32) (vt_now : Nat → Int32) (vt_told : Nat → Int32) (vt_pages : Nat → Int32) (N : Nat) (R : Int32 × (Nat → Int32)) (hf : f_X6_fitsWith N a1 a2 a3 vt_clerks vt_drops vt_tires vt_now vt_told vt_pages = some R) : Met l yX6_fitsWith wsX6_fitsWith (rm_X6_fitsWith) (va_Pc [.ref ht, .int a1, .int a2, .int a3] (fun U => U.heap.size = sz ∧ va_P (dC, dI) vwCl [(ht, .inr (5, [.int vt_clerks, .ref ht_drops, .ref ht_tires, .ref ht_now, .ref ht_told, .ref ht_text, .int vt_length, .ref ht_pages, .int vt_acts, .int vt_next, .ref ht_row, .int vt_found, .ref ht_alike, .ref ht_table, .ref ht_keys, .ref ht_own, .long vt_seed, .ref ht_isKept, .ref ht_kept])), (ht_drops, .inl (cI, 4, .inl vt_drops)), (ht_tires, .inl (cI, 4, .inl vt_tires)), (ht_now, .inl (cI, 13, .inl vt_now)), (ht_told, .inl (cI, 4, .inl vt_told)), (ht_pages, .inl (cI, 4, .inl vt_pages))] U.heap ∧ va_K (dC, dI) vwCl [(cI, .int), (cJ, .long), (cZ, .boolean)] U ∧ va_D (fun _ => True) [(ht, .inr (5, [.int vt_clerks, .ref ht_drops, .ref ht_tires, .ref ht_now, .ref ht_told, .ref ht_text, .int vt_length, .ref ht_pages, .int vt_acts, .int vt_next, .ref ht_row, .int vt_found, .ref ht_alike, .ref ht_table, .ref ht_keys, .ref ht_own, .long vt_seed, .ref ht_isKept, .ref ht_kept])), (ht_drops, .inl (cI, 4, .inl vt_drops)), (ht_tires, .inl (cI, 4, .inl vt_tires)), (ht_now, .inl (cI, 13, .inl vt_now)), (ht_told, .inl (cI, 4, .inl vt_told)), (ht_pages, .inl (cI, 4, .inl vt_pages))])) (q_X6_fitsWith dC dI cI cJ cZ ht ht_drops ht_tires ht_now ht_told ht_text ht_pages ht_row ht_alike ht_table ht_keys ht_own ht_isKept ht_kept vt_clerks vt_length vt_acts vt_next vt_found vt_seed vt_drops vt_tires vt_now vt_told R (va_A [(ht, .inr (5, [.int vt_clerks, .ref ht_drops, .ref ht_tires, .ref ht_now, .ref ht_told, .ref ht_text, .int vt_length, .ref ht_pages, .int vt_acts, .int vt_next, .ref ht_row, .int vt_found, .ref ht_alike, .ref ht_table, .ref ht_keys, .ref ht_own, .long vt_seed, .ref ht_isKept, .ref ht_kept])), (ht_drops, .inl (cI, 4, .inl vt_drops)), (ht_tires, .inl (cI, 4, .inl vt_tires)), (ht_now, .inl (cI, 13, .inl vt_now)), (ht_told, .inl (cI, 4, .inl vt_told)), (ht_pages, .inl (cI, 4, .inl vt_pages))] sz)) 0 0 (va_A [(ht, .inr (5, [.int vt_clerks, .ref ht_drops, .ref ht_tires, .ref ht_now, .ref ht_told, .ref ht_text, .int vt_length, .ref ht_pages, .int vt_acts, .int vt_next, .ref ht_row, .int vt_found, .ref ht_alike, .ref ht_table, .ref ht_keys, .ref ht_own, .long vt_seed, .ref ht_isKept, .ref ht_kept])), (ht_drops, .inl (cI, 4, .inl vt_drops)), (ht_tires, .inl (cI, 4, .inl vt_tires)), (ht_now, .inl (cI, 13, .inl vt_now)), (ht_told, .inl (cI, 4, .inl vt_told)), (ht_pages, .inl (cI, 4, .inl vt_pages))] sz) := by
  refine Met.ofW (cc := cX6_fitsWith) (maxL := 6) (ret := (some .int)) (by decide) rfl ?_
  intro p e s m args below meth c s₁ B hml hv
  obtain ⟨rfl, hsz, hP, hK, hD0⟩ := hv
  have hx := B.exec
  have hb := B.bytes
  have hr := B.returns
  have hts := atoms_spec (ws := wsX6_fitsWith) B.pre
  have hown : s.vm.findClass RX6 = some m.cls := findClass_of_methodNamed B.named
  have hlocks := B.notSynchronized
  clear B
  subst hsz
  have hD := hD0.self (sz := s.heap.size)
  clear hD0
  generalize hAe : va_A [(ht, .inr (5, [.int vt_clerks, .ref ht_drops, .ref ht_tires, .ref ht_now, .ref ht_told, .ref ht_text, .int vt_length, .ref ht_pages, .int vt_acts, .int vt_next, .ref ht_row, .int vt_found, .ref ht_alike, .ref ht_table, .ref ht_keys, .ref ht_own, .long vt_seed, .ref ht_isKept, .ref ht_kept])), (ht_drops, .inl (cI, 4, .inl vt_drops)), (ht_tires, .inl (cI, 4, .inl vt_tires)), (ht_now, .inl (cI, 13, .inl vt_now)), (ht_told, .inl (cI, 4, .inl vt_told)), (ht_pages, .inl (cI, 4, .inl vt_pages))] s.heap.size = A at hD ⊢
  have hA : ∀ q : Nat, s.heap.size ≤ q → A q := fun q h => by rw [← hAe]; exact Or.inr h
  clear hAe
  have hS : va_S A s.heap s.heap [] := va_S.rf
  have hl := lv_entry ([.ref ht, .int a1, .int a2, .int a3]) (n := 6) (Nat.le_of_ble_eq_true rfl)
  rw [lg_entry_eq]
  generalize (lg_sl ([.ref ht, .int a1, .int a2, .int a3]) ++ List.replicate (6 - (lg_sl ([.ref ht, .int a1, .int a2, .int a3])).length) Slot.unset).toArray = ls at hl ⊢
  have hl : lv_has ls 6 [(0, .ref ht), (1, .int a1), (2, .int a2), (3, .int a3)] := hl
  unfold f_X6_fitsWith at hf
  refine lv_iconst (v := 0) hx hb dX6_fitsWith_0 (by decide) ?_
  refine lv_istore (lv' := [(4, .int (0:Int32)), (0, .ref ht), (1, .int a1), (2, .int a2), (3, .int a3)]) hx hb dX6_fitsWith_1 hl (by decide) rfl (fun ls hl => ?_)
  refine lv_iconst (v := 0) hx hb dX6_fitsWith_3 (by decide) ?_
  refine lv_istore (lv' := [(5, .int (0:Int32)), (4, .int (0:Int32)), (0, .ref ht), (1, .int a1), (2, .int a2), (3, .int a3)]) hx hb dX6_fitsWith_4 hl (by decide) rfl (fun ls hl => ?_)
  have ex6 : ∀ (z4_6 : Int32) (z5_6 : Int32) (zvt_pages_6 : (Nat → Int32)) (H : Heap) (locs : List Loc) (ls : Array Slot), va_P (dC, dI) vwCl [(ht, .inr (5, [.int vt_clerks, .ref ht_drops, .ref ht_tires, .ref ht_now, .ref ht_told, .ref ht_text, .int vt_length, .ref ht_pages, .int vt_acts, .int vt_next, .ref ht_row, .int vt_found, .ref ht_alike, .ref ht_table, .ref ht_keys, .ref ht_own, .long vt_seed, .ref ht_isKept, .ref ht_kept])), (ht_drops, .inl (cI, 4, .inl vt_drops)), (ht_tires, .inl (cI, 4, .inl vt_tires)), (ht_now, .inl (cI, 13, .inl vt_now)), (ht_told, .inl (cI, 4, .inl vt_told)), (ht_pages, .inl (cI, 4, .inl zvt_pages_6))] H → va_D A [(ht, .inr (5, [.int vt_clerks, .ref ht_drops, .ref ht_tires, .ref ht_now, .ref ht_told, .ref ht_text, .int vt_length, .ref ht_pages, .int vt_acts, .int vt_next, .ref ht_row, .int vt_found, .ref ht_alike, .ref ht_table, .ref ht_keys, .ref ht_own, .long vt_seed, .ref ht_isKept, .ref ht_kept])), (ht_drops, .inl (cI, 4, .inl vt_drops)), (ht_tires, .inl (cI, 4, .inl vt_tires)), (ht_now, .inl (cI, 13, .inl vt_now)), (ht_told, .inl (cI, 4, .inl vt_told)), (ht_pages, .inl (cI, 4, .inl zvt_pages_6))] → va_S A s.heap H locs → lv_has ls 6 [(5, .int z5_6), (4, .int z4_6), (0, .ref ht), (1, .int a1), (2, .int a2), (3, .int a3)] → (some (z4_6, zvt_pages_6)) = some R → W p l e (rm_X6_fitsWith) s m ([.ref ht, .int a1, .int a2, .int a3] : List Value).toArray below meth c H locs 0 0 (MQ below (q_X6_fitsWith dC dI cI cJ cZ ht ht_drops ht_tires ht_now ht_told ht_text ht_pages ht_row ht_alike ht_table ht_keys ht_own ht_isKept ht_kept vt_clerks vt_length vt_acts vt_next vt_found vt_seed vt_drops vt_tires vt_now vt_told R A) ([.ref ht, .int a1, .int a2, .int a3] : List Value).toArray s 0 0 A) (F0 m 62 ls []) := by
    intro z4_6 z5_6 zvt_pages_6 H locs ls hP hD hS hl hf
    refine lv_iload hx hb dX6_fitsWith_62 (lv_at hl 1 rfl) ?_
    have he := Option.some.inj hf
    have hP9 := hP
    have hD9 := hD
    exact W.iret (v := z4_6) hx hb hr (fun t eth hW => ⟨⟨z4_6, zvt_pages_6, rfl, ⟨(congrArg Prod.fst he).symm, (congrArg Prod.snd he).symm⟩, by rw [eth]; exact hP9, va_K.moved hW.alike hK, hD9⟩, hS.F eth⟩) hS.2.2 dX6_fitsWith_64
  have lp6 : ∀ (n6 : Nat) (y4_6 : Int32) (y5_6 : Int32) (yvt_pages_6 : (Nat → Int32)) (H : Heap) (locs : List Loc) (ls : Array Slot), va_P (dC, dI) vwCl [(ht, .inr (5, [.int vt_clerks, .ref ht_drops, .ref ht_tires, .ref ht_now, .ref ht_told, .ref ht_text, .int vt_length, .ref ht_pages, .int vt_acts, .int vt_next, .ref ht_row, .int vt_found, .ref ht_alike, .ref ht_table, .ref ht_keys, .ref ht_own, .long vt_seed, .ref ht_isKept, .ref ht_kept])), (ht_drops, .inl (cI, 4, .inl vt_drops)), (ht_tires, .inl (cI, 4, .inl vt_tires)), (ht_now, .inl (cI, 13, .inl vt_now)), (ht_told, .inl (cI, 4, .inl vt_told)), (ht_pages, .inl (cI, 4, .inl yvt_pages_6))] H → va_D A [(ht, .inr (5, [.int vt_clerks, .ref ht_drops, .ref ht_tires, .ref ht_now, .ref ht_told, .ref ht_text, .int vt_length, .ref ht_pages, .int vt_acts, .int vt_next, .ref ht_row, .int vt_found, .ref ht_alike, .ref ht_table, .ref ht_keys, .ref ht_own, .long vt_seed, .ref ht_isKept, .ref ht_kept])), (ht_drops, .inl (cI, 4, .inl vt_drops)), (ht_tires, .inl (cI, 4, .inl vt_tires)), (ht_now, .inl (cI, 13, .inl vt_now)), (ht_told, .inl (cI, 4, .inl vt_told)), (ht_pages, .inl (cI, 4, .inl yvt_pages_6))] → va_S A s.heap H locs → lv_has ls 6 [(5, .int y5_6), (4, .int y4_6), (0, .ref ht), (1, .int a1), (2, .int a2), (3, .int a3)] → f_X6_fitsWith_6 N a1 a2 a3 vt_clerks vt_drops vt_tires vt_now vt_told (fun z4_6 z5_6 zvt_pages_6 => some (z4_6, zvt_pages_6)) n6 y4_6 y5_6 yvt_pages_6 = some R → W p l e (rm_X6_fitsWith) s m ([.ref ht, .int a1, .int a2, .int a3] : List Value).toArray below meth c H locs 0 0 (MQ below (q_X6_fitsWith dC dI cI cJ cZ ht ht_drops ht_tires ht_now ht_told ht_text ht_pages ht_row ht_alike ht_table ht_keys ht_own ht_isKept ht_kept vt_clerks vt_length vt_acts vt_next vt_found vt_seed vt_drops vt_tires vt_now vt_told R A) ([.ref ht, .int a1, .int a2, .int a3] : List Value).toArray s 0 0 A) (F0 m 6 ls []) := by
    intro n6
    induction n6 with
    | zero => intro y4_6 y5_6 yvt_pages_6 H locs ls hP hD hS hl hf; rw [f_X6_fitsWith_6] at hf; cases hf
    | succ n6 ih6 =>
      intro y4_6 y5_6 yvt_pages_6 H locs ls hP hD hS hl hf
      rw [f_X6_fitsWith_6] at hf
      refine lv_iload hx hb dX6_fitsWith_6 (lv_at hl 0 rfl) ?_
      refine lv_iload_n hx hb dX6_fitsWith_8 rfl (lv_at hl 3 rfl) ?_
      obtain ⟨x1, hx1, hf⟩ := dg_bind hf
      have hPc : va_P (dC, dI) vwCl [] H := hP.sub [] rfl
      have hDc : va_D A [] := hD.sub [] (by decide) rfl
      have hFc := va_free (wc := []) hD hS hA [] rfl
      refine va_calli (va_runS (As := [.int a1]) (rest := [.int y5_6]) ⟨hx, hb, hml, hown, hts⟩ (k_X6_fourTo l dC dI cI cJ cZ H.size a1 N x1 hx1) (va_cwS 1 hts gX6_fitsWith_X6_fourTo rfl rfl rfl hd_X6_fourTo ⟨Nat.le_of_ble_eq_true rfl, Nat.le_of_ble_eq_true rfl⟩) ⟨blind_pc, pre_pc hPc hK hDc⟩ rfl rfl hl.1 rfl (lv_room (Nat.le_of_ble_eq_true rfl)) dX6_fitsWith_9 ⟨Nat.zero_le _, Nat.zero_le _⟩) hS (fun q _ h => hFc q h) hFc (fun r u t H1 locs eth hvm hw hB hz1 hk1 hS => ?_)
      obtain ⟨hP1, hK1, hD1⟩ := hB
      rw [eth] at hP1
      subst hw
      obtain ⟨hP, hD⟩ := va_join (wr := [(ht, .inr (5, [.int vt_clerks, .ref ht_drops, .ref ht_tires, .ref ht_now, .ref ht_told, .ref ht_text, .int vt_length, .ref ht_pages, .int vt_acts, .int vt_next, .ref ht_row, .int vt_found, .ref ht_alike, .ref ht_table, .ref ht_keys, .ref ht_own, .long vt_seed, .ref ht_isKept, .ref ht_kept])), (ht_drops, .inl (cI, 4, .inl vt_drops)), (ht_tires, .inl (cI, 4, .inl vt_tires)), (ht_now, .inl (cI, 13, .inl vt_now)), (ht_told, .inl (cI, 4, .inl vt_told)), (ht_pages, .inl (cI, 4, .inl yvt_pages_6))]) (w1 := []) hP hD [] [0, 1, 2, 3, 4, 5] rfl rfl (by decide) (by decide) hk1 hFc hP1 hD1
      clear hP1 hK1 hD1 hPc hDc hFc hk1 hz1 hvm eth
      generalize H1 = H at hP hS ⊢
      have hP : va_P (dC, dI) vwCl [(ht, .inr (5, [.int vt_clerks, .ref ht_drops, .ref ht_tires, .ref ht_now, .ref ht_told, .ref ht_text, .int vt_length, .ref ht_pages, .int vt_acts, .int vt_next, .ref ht_row, .int vt_found, .ref ht_alike, .ref ht_table, .ref ht_keys, .ref ht_own, .long vt_seed, .ref ht_isKept, .ref ht_kept])), (ht_drops, .inl (cI, 4, .inl vt_drops)), (ht_tires, .inl (cI, 4, .inl vt_tires)), (ht_now, .inl (cI, 13, .inl vt_now)), (ht_told, .inl (cI, 4, .inl vt_told)), (ht_pages, .inl (cI, 4, .inl yvt_pages_6))] H := hP
      have hD : va_D A [(ht, .inr (5, [.int vt_clerks, .ref ht_drops, .ref ht_tires, .ref ht_now, .ref ht_told, .ref ht_text, .int vt_length, .ref ht_pages, .int vt_acts, .int vt_next, .ref ht_row, .int vt_found, .ref ht_alike, .ref ht_table, .ref ht_keys, .ref ht_own, .long vt_seed, .ref ht_isKept, .ref ht_kept])), (ht_drops, .inl (cI, 4, .inl vt_drops)), (ht_tires, .inl (cI, 4, .inl vt_tires)), (ht_now, .inl (cI, 13, .inl vt_now)), (ht_told, .inl (cI, 4, .inl vt_told)), (ht_pages, .inl (cI, 4, .inl yvt_pages_6))] := hD
      refine lv_icmp_ge (tgt := 62) hx hb dX6_fitsWith_12 (by decide) (fun c2 => ?_) (fun c2 => ?_)
      · replace hf := dg_t c2 hf
        exact ex6 y4_6 y5_6 yvt_pages_6 _ _ _ hP hD hS (lv_sub hl [0, 1, 2, 3, 4, 5] rfl) hf
      · replace hf := dg_f c2 hf
        refine lv_iload hx hb dX6_fitsWith_15 (lv_at hl 1 rfl) ?_
        refine lv_iload_n hx hb dX6_fitsWith_17 rfl (lv_at hl 3 rfl) ?_
        refine lv_sipush (v := 4096) hx hb dX6_fitsWith_18 (by decide) ?_
        refine lv_imul hx hb dX6_fitsWith_21 ?_
        refine lv_iload hx hb dX6_fitsWith_22 (lv_at hl 0 rfl) ?_
        refine lv_iadd hx hb dX6_fitsWith_24 ?_
        refine lv_iload_n hx hb dX6_fitsWith_25 rfl (lv_at hl 4 rfl) ?_
        obtain ⟨x3, hx3, hf⟩ := dg_bind hf
        have hPc : va_P (dC, dI) vwCl [] H := hP.sub [] rfl
        have hDc : va_D A [] := hD.sub [] (by decide) rfl
        have hFc := va_free (wc := []) hD hS hA [] rfl
        refine va_calli (va_runS (As := [.int ((a1 * (4096:Int32)) + y5_6), .int a2]) (rest := [.int y4_6]) ⟨hx, hb, hml, hown, hts⟩ (k_X6_wordAt l dC dI cI cJ cZ H.size ((a1 * (4096:Int32)) + y5_6) a2 N x3 hx3) (va_cwS 2 hts gX6_fitsWith_X6_wordAt rfl rfl rfl hd_X6_wordAt ⟨Nat.le_of_ble_eq_true rfl, Nat.le_of_ble_eq_true rfl⟩) ⟨blind_pc, pre_pc hPc hK hDc⟩ rfl rfl hl.1 rfl (lv_room (Nat.le_of_ble_eq_true rfl)) dX6_fitsWith_26 ⟨Nat.zero_le _, Nat.zero_le _⟩) hS (fun q _ h => hFc q h) hFc (fun r u t H1 locs eth hvm hw hB hz1 hk1 hS => ?_)
        obtain ⟨hP1, hK1, hD1⟩ := hB
        rw [eth] at hP1
        subst hw
        obtain ⟨hP, hD⟩ := va_join (wr := [(ht, .inr (5, [.int vt_clerks, .ref ht_drops, .ref ht_tires, .ref ht_now, .ref ht_told, .ref ht_text, .int vt_length, .ref ht_pages, .int vt_acts, .int vt_next, .ref ht_row, .int vt_found, .ref ht_alike, .ref ht_table, .ref ht_keys, .ref ht_own, .long vt_seed, .ref ht_isKept, .ref ht_kept])), (ht_drops, .inl (cI, 4, .inl vt_drops)), (ht_tires, .inl (cI, 4, .inl vt_tires)), (ht_now, .inl (cI, 13, .inl vt_now)), (ht_told, .inl (cI, 4, .inl vt_told)), (ht_pages, .inl (cI, 4, .inl yvt_pages_6))]) (w1 := []) hP hD [] [0, 1, 2, 3, 4, 5] rfl rfl (by decide) (by decide) hk1 hFc hP1 hD1
        clear hP1 hK1 hD1 hPc hDc hFc hk1 hz1 hvm eth
        generalize H1 = H at hP hS ⊢
        have hP : va_P (dC, dI) vwCl [(ht, .inr (5, [.int vt_clerks, .ref ht_drops, .ref ht_tires, .ref ht_now, .ref ht_told, .ref ht_text, .int vt_length, .ref ht_pages, .int vt_acts, .int vt_next, .ref ht_row, .int vt_found, .ref ht_alike, .ref ht_table, .ref ht_keys, .ref ht_own, .long vt_seed, .ref ht_isKept, .ref ht_kept])), (ht_drops, .inl (cI, 4, .inl vt_drops)), (ht_tires, .inl (cI, 4, .inl vt_tires)), (ht_now, .inl (cI, 13, .inl vt_now)), (ht_told, .inl (cI, 4, .inl vt_told)), (ht_pages, .inl (cI, 4, .inl yvt_pages_6))] H := hP
        have hD : va_D A [(ht, .inr (5, [.int vt_clerks, .ref ht_drops, .ref ht_tires, .ref ht_now, .ref ht_told, .ref ht_text, .int vt_length, .ref ht_pages, .int vt_acts, .int vt_next, .ref ht_row, .int vt_found, .ref ht_alike, .ref ht_table, .ref ht_keys, .ref ht_own, .long vt_seed, .ref ht_isKept, .ref ht_kept])), (ht_drops, .inl (cI, 4, .inl vt_drops)), (ht_tires, .inl (cI, 4, .inl vt_tires)), (ht_now, .inl (cI, 13, .inl vt_now)), (ht_told, .inl (cI, 4, .inl vt_told)), (ht_pages, .inl (cI, 4, .inl yvt_pages_6))] := hD
        refine lv_iload_n hx hb dX6_fitsWith_29 rfl (lv_at hl 5 rfl) ?_
        refine lv_icmp_ne (tgt := 52) hx hb dX6_fitsWith_30 (by decide) (fun c4 => ?_) (fun c4 => ?_)
        · replace hf := dg_f c4 hf
          refine lv_iconst (v := 0) hx hb dX6_fitsWith_52 (by decide) ?_
          refine lv_iadd hx hb dX6_fitsWith_53 ?_
          refine lv_istore (lv' := [(4, .int (y4_6 + (0:Int32))), (5, .int y5_6), (0, .ref ht), (1, .int a1), (2, .int a2), (3, .int a3)]) hx hb dX6_fitsWith_54 hl (by decide) rfl (fun ls hl => ?_)
          refine lv_iinc (v := (y5_6 + (1:Int32))) (lv' := [(5, .int (y5_6 + (1:Int32))), (4, .int (y4_6 + (0:Int32))), (0, .ref ht), (1, .int a1), (2, .int a2), (3, .int a3)]) hx hb dX6_fitsWith_56 hl (k := 1) rfl (by first | rfl | decide) (by decide) rfl (fun ls hl => ?_)
          refine lv_goto (tgt := 6) hx hb dX6_fitsWith_59 (by decide) ?_
          exact ih6 (y4_6 + (0:Int32)) (y5_6 + (1:Int32)) yvt_pages_6 _ _ _ hP hD hS (lv_sub hl [0, 1, 2, 3, 4, 5] rfl) hf
        · replace hf := dg_t c4 hf
          refine lv_aload_n hx hb dX6_fitsWith_33 rfl (lv_at hl 2 rfl) ?_
          refine lv_iload_n hx hb dX6_fitsWith_34 rfl (lv_at hl 3 rfl) ?_
          refine lv_sipush (v := 4096) hx hb dX6_fitsWith_35 (by decide) ?_
          refine lv_imul hx hb dX6_fitsWith_38 ?_
          refine lv_iload hx hb dX6_fitsWith_39 (lv_at hl 0 rfl) ?_
          refine lv_iadd hx hb dX6_fitsWith_41 ?_
          obtain ⟨x5, hx5, hf⟩ := dg_bind hf
          have hPc : va_P (dC, dI) vwCl [(ht, .inr (5, [.int vt_clerks, .ref ht_drops, .ref ht_tires, .ref ht_now, .ref ht_told, .ref ht_text, .int vt_length, .ref ht_pages, .int vt_acts, .int vt_next, .ref ht_row, .int vt_found, .ref ht_alike, .ref ht_table, .ref ht_keys, .ref ht_own, .long vt_seed, .ref ht_isKept, .ref ht_kept])), (ht_drops, .inl (cI, 4, .inl vt_drops)), (ht_tires, .inl (cI, 4, .inl vt_tires)), (ht_now, .inl (cI, 13, .inl vt_now)), (ht_told, .inl (cI, 4, .inl vt_told)), (ht_pages, .inl (cI, 4, .inl yvt_pages_6))] H := hP.sub [0, 1, 2, 3, 4, 5] rfl
          have hDc : va_D A [(ht, .inr (5, [.int vt_clerks, .ref ht_drops, .ref ht_tires, .ref ht_now, .ref ht_told, .ref ht_text, .int vt_length, .ref ht_pages, .int vt_acts, .int vt_next, .ref ht_row, .int vt_found, .ref ht_alike, .ref ht_table, .ref ht_keys, .ref ht_own, .long vt_seed, .ref ht_isKept, .ref ht_kept])), (ht_drops, .inl (cI, 4, .inl vt_drops)), (ht_tires, .inl (cI, 4, .inl vt_tires)), (ht_now, .inl (cI, 13, .inl vt_now)), (ht_told, .inl (cI, 4, .inl vt_told)), (ht_pages, .inl (cI, 4, .inl yvt_pages_6))] := hD.sub [0, 1, 2, 3, 4, 5] (by decide) rfl
          have hFc := va_free (wc := [(ht, .inr (5, [.int vt_clerks, .ref ht_drops, .ref ht_tires, .ref ht_now, .ref ht_told, .ref ht_text, .int vt_length, .ref ht_pages, .int vt_acts, .int vt_next, .ref ht_row, .int vt_found, .ref ht_alike, .ref ht_table, .ref ht_keys, .ref ht_own, .long vt_seed, .ref ht_isKept, .ref ht_kept])), (ht_drops, .inl (cI, 4, .inl vt_drops)), (ht_tires, .inl (cI, 4, .inl vt_tires)), (ht_now, .inl (cI, 13, .inl vt_now)), (ht_told, .inl (cI, 4, .inl vt_told)), (ht_pages, .inl (cI, 4, .inl yvt_pages_6))]) hD hS hA [0, 1, 2, 3, 4, 5] rfl
          refine va_calli (va_runV (As := [.int ((a1 * (4096:Int32)) + y5_6)]) (rest := [.int y4_6]) ⟨hx, hb, hml, hown, hts⟩ (k_X6_isFit l dC dI cI cJ cZ H.size ht ht_drops ht_tires ht_now ht_told ht_text ht_pages ht_row ht_alike ht_table ht_keys ht_own ht_isKept ht_kept ((a1 * (4096:Int32)) + y5_6) vt_clerks vt_length vt_acts vt_next vt_found vt_seed vt_drops vt_tires vt_now vt_told yvt_pages_6 N x5 hx5) (cwV 1 hts gX6_fitsWith_X6_isFit rfl rfl rfl hd_X6_isFit ⟨Nat.le_of_ble_eq_true rfl, Nat.le_of_ble_eq_true rfl⟩) ⟨blind_pc, va_recv hK hPc (ci := 5) (q0 := 0) rfl rfl, pre_pc hPc hK hDc⟩ rfl rfl hl.1 rfl (lv_room (Nat.le_of_ble_eq_true rfl)) dX6_fitsWith_42 ⟨Nat.zero_le _, Nat.zero_le _⟩) hS (fun q _ h => hFc q h) hFc (fun r u t H1 locs eth hvm hw hB hz1 hk1 hS => ?_)
          obtain ⟨hP1, hK1, hD1⟩ := hB
          rw [eth] at hP1
          obtain ⟨hw, hw2⟩ := hw
          subst hw; subst hw2
          obtain ⟨hP, hD⟩ := va_join (wr := []) (w1 := [(ht, .inr (5, [.int vt_clerks, .ref ht_drops, .ref ht_tires, .ref ht_now, .ref ht_told, .ref ht_text, .int vt_length, .ref ht_pages, .int vt_acts, .int vt_next, .ref ht_row, .int vt_found, .ref ht_alike, .ref ht_table, .ref ht_keys, .ref ht_own, .long vt_seed, .ref ht_isKept, .ref ht_kept])), (ht_drops, .inl (cI, 4, .inl vt_drops)), (ht_tires, .inl (cI, 4, .inl vt_tires)), (ht_now, .inl (cI, 13, .inl vt_now)), (ht_told, .inl (cI, 4, .inl vt_told)), (ht_pages, .inl (cI, 4, .inl x5.2))]) hP hD [0, 1, 2, 3, 4, 5] [] rfl rfl (by decide) (by decide) hk1 hFc hP1 hD1
          clear hP1 hK1 hD1 hPc hDc hFc hk1 hz1 hvm eth
          generalize H1 = H at hP hS ⊢
          have hP : va_P (dC, dI) vwCl [(ht, .inr (5, [.int vt_clerks, .ref ht_drops, .ref ht_tires, .ref ht_now, .ref ht_told, .ref ht_text, .int vt_length, .ref ht_pages, .int vt_acts, .int vt_next, .ref ht_row, .int vt_found, .ref ht_alike, .ref ht_table, .ref ht_keys, .ref ht_own, .long vt_seed, .ref ht_isKept, .ref ht_kept])), (ht_drops, .inl (cI, 4, .inl vt_drops)), (ht_tires, .inl (cI, 4, .inl vt_tires)), (ht_now, .inl (cI, 13, .inl vt_now)), (ht_told, .inl (cI, 4, .inl vt_told)), (ht_pages, .inl (cI, 4, .inl x5.2))] H := hP
          have hD : va_D A [(ht, .inr (5, [.int vt_clerks, .ref ht_drops, .ref ht_tires, .ref ht_now, .ref ht_told, .ref ht_text, .int vt_length, .ref ht_pages, .int vt_acts, .int vt_next, .ref ht_row, .int vt_found, .ref ht_alike, .ref ht_table, .ref ht_keys, .ref ht_own, .long vt_seed, .ref ht_isKept, .ref ht_kept])), (ht_drops, .inl (cI, 4, .inl vt_drops)), (ht_tires, .inl (cI, 4, .inl vt_tires)), (ht_now, .inl (cI, 13, .inl vt_now)), (ht_told, .inl (cI, 4, .inl vt_told)), (ht_pages, .inl (cI, 4, .inl x5.2))] := hD
          refine lv_if_eq (tgt := 52) hx hb dX6_fitsWith_45 (by decide) (fun c6 => ?_) (fun c6 => ?_)
          · replace hf := dg_t c6 hf
            refine lv_iconst (v := 0) hx hb dX6_fitsWith_52 (by decide) ?_
            refine lv_iadd hx hb dX6_fitsWith_53 ?_
            refine lv_istore (lv' := [(4, .int (y4_6 + (0:Int32))), (5, .int y5_6), (0, .ref ht), (1, .int a1), (2, .int a2), (3, .int a3)]) hx hb dX6_fitsWith_54 hl (by decide) rfl (fun ls hl => ?_)
            refine lv_iinc (v := (y5_6 + (1:Int32))) (lv' := [(5, .int (y5_6 + (1:Int32))), (4, .int (y4_6 + (0:Int32))), (0, .ref ht), (1, .int a1), (2, .int a2), (3, .int a3)]) hx hb dX6_fitsWith_56 hl (k := 1) rfl (by first | rfl | decide) (by decide) rfl (fun ls hl => ?_)
            refine lv_goto (tgt := 6) hx hb dX6_fitsWith_59 (by decide) ?_
            exact ih6 (y4_6 + (0:Int32)) (y5_6 + (1:Int32)) x5.2 _ _ _ hP hD hS (lv_sub hl [0, 1, 2, 3, 4, 5] rfl) hf
          · replace hf := dg_f c6 hf
            refine lv_iconst (v := 1) hx hb dX6_fitsWith_48 (by decide) ?_
            refine lv_goto (tgt := 53) hx hb dX6_fitsWith_49 (by decide) ?_
            refine lv_iadd hx hb dX6_fitsWith_53 ?_
            refine lv_istore (lv' := [(4, .int (y4_6 + (1:Int32))), (5, .int y5_6), (0, .ref ht), (1, .int a1), (2, .int a2), (3, .int a3)]) hx hb dX6_fitsWith_54 hl (by decide) rfl (fun ls hl => ?_)
            refine lv_iinc (v := (y5_6 + (1:Int32))) (lv' := [(5, .int (y5_6 + (1:Int32))), (4, .int (y4_6 + (1:Int32))), (0, .ref ht), (1, .int a1), (2, .int a2), (3, .int a3)]) hx hb dX6_fitsWith_56 hl (k := 1) rfl (by first | rfl | decide) (by decide) rfl (fun ls hl => ?_)
            refine lv_goto (tgt := 6) hx hb dX6_fitsWith_59 (by decide) ?_
            exact ih6 (y4_6 + (1:Int32)) (y5_6 + (1:Int32)) x5.2 _ _ _ hP hD hS (lv_sub hl [0, 1, 2, 3, 4, 5] rfl) hf
  exact lp6 N (0:Int32) (0:Int32) vt_pages _ _ _ hP hD hS hl hf
theorem hd_X6_sure : yX6_sure.cls = RX6 ∧ yX6_sure.cls ≠ "java/lang/invoke/MethodHandle" ∧ yX6_sure.cls ≠ "java/lang/invoke/VarHandle" ∧ (parseMethodDescriptor yX6_sure.desc).map (fun d => d.parameters.length) = some 2 := by decide +kernel
abbrev rm_X6_sure : Room := { frames := 6, cells := 0, slots := 0, locals := 141 }
abbrev q_X6_sure (dC : Nat → ClassId) (dI : Nat → Nat → Nat) (cI cJ cZ : ClassId) (ht ht_drops ht_tires ht_now ht_told ht_text ht_pages ht_row ht_alike ht_table ht_keys ht_own ht_isKept ht_kept : Nat) (vt_clerks : Int32) (vt_length : Int32) (vt_acts : Int32) (vt_next : Int32) (vt_found : Int32) (vt_seed : Int64) (vt_drops : Nat → Int32) (vt_tires : Nat → Int32) (vt_now : Nat → Int32) (vt_told : Nat → Int32) (R : Int32 × (Nat → Int32)) (A : Nat → Prop) : Array Value → State → Outcome → State → Prop := va_Qi (fun (r : Int32) (u : (Nat → Int32)) => R.1 = r ∧ R.2 = u) (fun (u : (Nat → Int32)) (t : State) => va_P (dC, dI) vwCl [(ht, .inr (5, [.int vt_clerks, .ref ht_drops, .ref ht_tires, .ref ht_now, .ref ht_told, .ref ht_text, .int vt_length, .ref ht_pages, .int vt_acts, .int vt_next, .ref ht_row, .int vt_found, .ref ht_alike, .ref ht_table, .ref ht_keys, .ref ht_own, .long vt_seed, .ref ht_isKept, .ref ht_kept])), (ht_drops, .inl (cI, 4, .inl vt_drops)), (ht_tires, .inl (cI, 4, .inl vt_tires)), (ht_now, .inl (cI, 13, .inl vt_now)), (ht_told, .inl (cI, 4, .inl vt_told)), (ht_pages, .inl (cI, 4, .inl u))] t.heap ∧ va_K (dC, dI) vwCl [(cI, .int), (cJ, .long), (cZ, .boolean)] t ∧ va_D A [(ht, .inr (5, [.int vt_clerks, .ref ht_drops, .ref ht_tires, .ref ht_now, .ref ht_told, .ref ht_text, .int vt_length, .ref ht_pages, .int vt_acts, .int vt_next, .ref ht_row, .int vt_found, .ref ht_alike, .ref ht_table, .ref ht_keys, .ref ht_own, .long vt_seed, .ref ht_isKept, .ref ht_kept])), (ht_drops, .inl (cI, 4, .inl vt_drops)), (ht_tires, .inl (cI, 4, .inl vt_tires)), (ht_now, .inl (cI, 13, .inl vt_now)), (ht_told, .inl (cI, 4, .inl vt_told)), (ht_pages, .inl (cI, 4, .inl u))]) A
set_option maxHeartbeats 4000000 in
set_option maxRecDepth 100000 in
theorem k_X6_sure (l : Launch) (dC : Nat → ClassId) (dI : Nat → Nat → Nat) (cI cJ cZ : ClassId) (sz : Nat) (ht ht_drops ht_tires ht_now ht_told ht_text ht_pages ht_row ht_alike ht_table ht_keys ht_own ht_isKept ht_kept : Nat) (a1 : Int32) (a2 : Int32) (vt_clerks : Int32) (vt_length : Int32) (vt_acts : Int32) (vt_next : Int32) (vt_found : Int32) (vt_seed : Int64) (vt_drops : Nat → Int32) (vt_tires : Nat → Int32) (vt_now : Nat → Int32) (vt_told : Nat → Int32) (vt_pages : Nat → Int32) (N : Nat) (R : Int32 × (Nat → Int32)) (hf : f_X6_sure N a1 a2 vt_clerks vt_drops vt_tires vt_now vt_told vt_pages = some R) : Met l yX6_sure wsX6_sure (rm_X6_sure) (va_Pc [.ref ht, .int a1, .int a2] (fun U => U.heap.size = sz ∧ va_P (dC, dI) vwCl [(ht, .inr (5, [.int vt_clerks, .ref ht_drops, .ref ht_tires, .ref ht_now, .ref ht_told, .ref ht_text, .int vt_length, .ref ht_pages, .int vt_acts, .int vt_next, .ref ht_row, .int vt_found, .ref ht_alike, .ref ht_table, .ref ht_keys, .ref ht_own, .long vt_seed, .ref ht_isKept, .ref ht_kept])), (ht_drops, .inl (cI, 4, .inl vt_drops)), (ht_tires, .inl (cI, 4, .inl vt_tires)), (ht_now, .inl (cI, 13, .inl vt_now)), (ht_told, .inl (cI, 4, .inl vt_told)), (ht_pages, .inl (cI, 4, .inl vt_pages))] U.heap ∧ va_K (dC, dI) vwCl [(cI, .int), (cJ, .long), (cZ, .boolean)] U ∧ va_D (fun _ => True) [(ht, .inr (5, [.int vt_clerks, .ref ht_drops, .ref ht_tires, .ref ht_now, .ref ht_told, .ref ht_text, .int vt_length, .ref ht_pages, .int vt_acts, .int vt_next, .ref ht_row, .int vt_found, .ref ht_alike, .ref ht_table, .ref ht_keys, .ref ht_own, .long vt_seed, .ref ht_isKept, .ref ht_kept])), (ht_drops, .inl (cI, 4, .inl vt_drops)), (ht_tires, .inl (cI, 4, .inl vt_tires)), (ht_now, .inl (cI, 13, .inl vt_now)), (ht_told, .inl (cI, 4, .inl vt_told)), (ht_pages, .inl (cI, 4, .inl vt_pages))])) (q_X6_sure dC dI cI cJ cZ ht ht_drops ht_tires ht_now ht_told ht_text ht_pages ht_row ht_alike ht_table ht_keys ht_own ht_isKept ht_kept vt_clerks vt_length vt_acts vt_next vt_found vt_seed vt_drops vt_tires vt_now vt_told R (va_A [(ht, .inr (5, [.int vt_clerks, .ref ht_drops, .ref ht_tires, .ref ht_now, .ref ht_told, .ref ht_text, .int vt_length, .ref ht_pages, .int vt_acts, .int vt_next, .ref ht_row, .int vt_found, .ref ht_alike, .ref ht_table, .ref ht_keys, .ref ht_own, .long vt_seed, .ref ht_isKept, .ref ht_kept])), (ht_drops, .inl (cI, 4, .inl vt_drops)), (ht_tires, .inl (cI, 4, .inl vt_tires)), (ht_now, .inl (cI, 13, .inl vt_now)), (ht_told, .inl (cI, 4, .inl vt_told)), (ht_pages, .inl (cI, 4, .inl vt_pages))] sz)) 0 0 (va_A [(ht, .inr (5, [.int vt_clerks, .ref ht_drops, .ref ht_tires, .ref ht_now, .ref ht_told, .ref ht_text, .int vt_length, .ref ht_pages, .int vt_acts, .int vt_next, .ref ht_row, .int vt_found, .ref ht_alike, .ref ht_table, .ref ht_keys, .ref ht_own, .long vt_seed, .ref ht_isKept, .ref ht_kept])), (ht_drops, .inl (cI, 4, .inl vt_drops)), (ht_tires, .inl (cI, 4, .inl vt_tires)), (ht_now, .inl (cI, 13, .inl vt_now)), (ht_told, .inl (cI, 4, .inl vt_told)), (ht_pages, .inl (cI, 4, .inl vt_pages))] sz) := by
  refine Met.ofW (cc := cX6_sure) (maxL := 5) (ret := (some .int)) (by decide) rfl ?_
  intro p e s m args below meth c s₁ B hml hv
  obtain ⟨rfl, hsz, hP, hK, hD0⟩ := hv
  have hx := B.exec
  have hb := B.bytes
  have hr := B.returns
  have hts := atoms_spec (ws := wsX6_sure) B.pre
  have hown : s.vm.findClass RX6 = some m.cls := findClass_of_methodNamed B.named
  have hlocks := B.notSynchronized
  clear B
  subst hsz
  have hw0 := hts (.constantLong RX6 124 (5)) (by decide +kernel)
  have hD := hD0.self (sz := s.heap.size)
  clear hD0
  generalize hAe : va_A [(ht, .inr (5, [.int vt_clerks, .ref ht_drops, .ref ht_tires, .ref ht_now, .ref ht_told, .ref ht_text, .int vt_length, .ref ht_pages, .int vt_acts, .int vt_next, .ref ht_row, .int vt_found, .ref ht_alike, .ref ht_table, .ref ht_keys, .ref ht_own, .long vt_seed, .ref ht_isKept, .ref ht_kept])), (ht_drops, .inl (cI, 4, .inl vt_drops)), (ht_tires, .inl (cI, 4, .inl vt_tires)), (ht_now, .inl (cI, 13, .inl vt_now)), (ht_told, .inl (cI, 4, .inl vt_told)), (ht_pages, .inl (cI, 4, .inl vt_pages))] s.heap.size = A at hD ⊢
  have hA : ∀ q : Nat, s.heap.size ≤ q → A q := fun q h => by rw [← hAe]; exact Or.inr h
  clear hAe
  have hS : va_S A s.heap s.heap [] := va_S.rf
  have hl := lv_entry ([.ref ht, .int a1, .int a2]) (n := 5) (Nat.le_of_ble_eq_true rfl)
  rw [lg_entry_eq]
  generalize (lg_sl ([.ref ht, .int a1, .int a2]) ++ List.replicate (5 - (lg_sl ([.ref ht, .int a1, .int a2])).length) Slot.unset).toArray = ls at hl ⊢
  have hl : lv_has ls 5 [(0, .ref ht), (1, .int a1), (2, .int a2)] := hl
  unfold f_X6_sure at hf
  refine lv_iload_n hx hb dX6_sure_0 rfl (lv_at hl 1 rfl) ?_
  refine lv_i2l hx hb dX6_sure_1 rfl ?_
  refine lv_lconst (v := 1) hx hb dX6_sure_2 (by decide) ?_
  refine lv_ldc2 (v := 5) hx hb hown hw0 dX6_sure_3 ?_
  obtain ⟨x1, hx1, hf⟩ := dg_bind hf
  have hPc : va_P (dC, dI) vwCl [] s.heap := hP.sub [] rfl
  have hDc : va_D A [] := hD.sub [] (by decide) rfl
  have hFc := va_free (wc := []) hD hS hA [] rfl
  refine va_calli (va_runS (As := [.long a1.toInt64, .long (1:Int64), .long (5:Int64)]) (rest := []) ⟨hx, hb, hml, hown, hts⟩ (k_X6_in l dC dI cI cJ cZ s.heap.size a1.toInt64 (1:Int64) (5:Int64) N x1 hx1) (va_cwS 3 hts gX6_sure_X6_in rfl rfl rfl hd_X6_in ⟨Nat.le_of_ble_eq_true rfl, Nat.le_of_ble_eq_true rfl⟩) ⟨blind_pc, pre_pc hPc hK hDc⟩ rfl rfl hl.1 rfl (lv_room (Nat.le_of_ble_eq_true rfl)) dX6_sure_6 ⟨Nat.zero_le _, Nat.zero_le _⟩) hS (fun q _ h => hFc q h) hFc (fun r u t H1 locs eth hvm hw hB hz1 hk1 hS => ?_)
  obtain ⟨hP1, hK1, hD1⟩ := hB
  rw [eth] at hP1
  subst hw
  obtain ⟨hP, hD⟩ := va_join (wr := [(ht, .inr (5, [.int vt_clerks, .ref ht_drops, .ref ht_tires, .ref ht_now, .ref ht_told, .ref ht_text, .int vt_length, .ref ht_pages, .int vt_acts, .int vt_next, .ref ht_row, .int vt_found, .ref ht_alike, .ref ht_table, .ref ht_keys, .ref ht_own, .long vt_seed, .ref ht_isKept, .ref ht_kept])), (ht_drops, .inl (cI, 4, .inl vt_drops)), (ht_tires, .inl (cI, 4, .inl vt_tires)), (ht_now, .inl (cI, 13, .inl vt_now)), (ht_told, .inl (cI, 4, .inl vt_told)), (ht_pages, .inl (cI, 4, .inl vt_pages))]) (w1 := []) hP hD [] [0, 1, 2, 3, 4, 5] rfl rfl (by decide) (by decide) hk1 hFc hP1 hD1
  clear hP1 hK1 hD1 hPc hDc hFc hk1 hz1 hvm eth
  generalize H1 = H at hP hS ⊢
  have hP : va_P (dC, dI) vwCl [(ht, .inr (5, [.int vt_clerks, .ref ht_drops, .ref ht_tires, .ref ht_now, .ref ht_told, .ref ht_text, .int vt_length, .ref ht_pages, .int vt_acts, .int vt_next, .ref ht_row, .int vt_found, .ref ht_alike, .ref ht_table, .ref ht_keys, .ref ht_own, .long vt_seed, .ref ht_isKept, .ref ht_kept])), (ht_drops, .inl (cI, 4, .inl vt_drops)), (ht_tires, .inl (cI, 4, .inl vt_tires)), (ht_now, .inl (cI, 13, .inl vt_now)), (ht_told, .inl (cI, 4, .inl vt_told)), (ht_pages, .inl (cI, 4, .inl vt_pages))] H := hP
  have hD : va_D A [(ht, .inr (5, [.int vt_clerks, .ref ht_drops, .ref ht_tires, .ref ht_now, .ref ht_told, .ref ht_text, .int vt_length, .ref ht_pages, .int vt_acts, .int vt_next, .ref ht_row, .int vt_found, .ref ht_alike, .ref ht_table, .ref ht_keys, .ref ht_own, .long vt_seed, .ref ht_isKept, .ref ht_kept])), (ht_drops, .inl (cI, 4, .inl vt_drops)), (ht_tires, .inl (cI, 4, .inl vt_tires)), (ht_now, .inl (cI, 13, .inl vt_now)), (ht_told, .inl (cI, 4, .inl vt_told)), (ht_pages, .inl (cI, 4, .inl vt_pages))] := hD
  refine lv_if_eq (tgt := 25) hx hb dX6_sure_9 (by decide) (fun c2 => ?_) (fun c2 => ?_)
  · replace hf := dg_t c2 hf
    refine lv_bipush (v := -2) hx hb dX6_sure_25 (by decide) ?_
    have he := Option.some.inj hf
    have hP9 := hP
    have hD9 := hD
    exact W.iret (v := (-2:Int32)) hx hb hr (fun t eth hW => ⟨⟨(-2:Int32), vt_pages, rfl, ⟨(congrArg Prod.fst he).symm, (congrArg Prod.snd he).symm⟩, by rw [eth]; exact hP9, va_K.moved hW.alike hK, hD9⟩, hS.F eth⟩) hS.2.2 dX6_sure_27
  · replace hf := dg_f c2 hf
    refine lv_iload_n hx hb dX6_sure_12 rfl (lv_at hl 2 rfl) ?_
    refine lv_i2l hx hb dX6_sure_13 rfl ?_
    refine lv_lconst (v := 0) hx hb dX6_sure_14 (by decide) ?_
    refine lv_iload_n hx hb dX6_sure_15 rfl (lv_at hl 1 rfl) ?_
    refine lv_iconst (v := 1) hx hb dX6_sure_16 (by decide) ?_
    refine lv_isub hx hb dX6_sure_17 ?_
    refine lv_i2l hx hb dX6_sure_18 rfl ?_
    obtain ⟨x3, hx3, hf⟩ := dg_bind hf
    have hPc : va_P (dC, dI) vwCl [] H := hP.sub [] rfl
    have hDc : va_D A [] := hD.sub [] (by decide) rfl
    have hFc := va_free (wc := []) hD hS hA [] rfl
    refine va_calli (va_runS (As := [.long a2.toInt64, .long (0:Int64), .long (a1 - (1:Int32)).toInt64]) (rest := []) ⟨hx, hb, hml, hown, hts⟩ (k_X6_in l dC dI cI cJ cZ H.size a2.toInt64 (0:Int64) (a1 - (1:Int32)).toInt64 N x3 hx3) (va_cwS 3 hts gX6_sure_X6_in rfl rfl rfl hd_X6_in ⟨Nat.le_of_ble_eq_true rfl, Nat.le_of_ble_eq_true rfl⟩) ⟨blind_pc, pre_pc hPc hK hDc⟩ rfl rfl hl.1 rfl (lv_room (Nat.le_of_ble_eq_true rfl)) dX6_sure_19 ⟨Nat.zero_le _, Nat.zero_le _⟩) hS (fun q _ h => hFc q h) hFc (fun r u t H1 locs eth hvm hw hB hz1 hk1 hS => ?_)
    obtain ⟨hP1, hK1, hD1⟩ := hB
    rw [eth] at hP1
    subst hw
    obtain ⟨hP, hD⟩ := va_join (wr := [(ht, .inr (5, [.int vt_clerks, .ref ht_drops, .ref ht_tires, .ref ht_now, .ref ht_told, .ref ht_text, .int vt_length, .ref ht_pages, .int vt_acts, .int vt_next, .ref ht_row, .int vt_found, .ref ht_alike, .ref ht_table, .ref ht_keys, .ref ht_own, .long vt_seed, .ref ht_isKept, .ref ht_kept])), (ht_drops, .inl (cI, 4, .inl vt_drops)), (ht_tires, .inl (cI, 4, .inl vt_tires)), (ht_now, .inl (cI, 13, .inl vt_now)), (ht_told, .inl (cI, 4, .inl vt_told)), (ht_pages, .inl (cI, 4, .inl vt_pages))]) (w1 := []) hP hD [] [0, 1, 2, 3, 4, 5] rfl rfl (by decide) (by decide) hk1 hFc hP1 hD1
    clear hP1 hK1 hD1 hPc hDc hFc hk1 hz1 hvm eth
    generalize H1 = H at hP hS ⊢
    have hP : va_P (dC, dI) vwCl [(ht, .inr (5, [.int vt_clerks, .ref ht_drops, .ref ht_tires, .ref ht_now, .ref ht_told, .ref ht_text, .int vt_length, .ref ht_pages, .int vt_acts, .int vt_next, .ref ht_row, .int vt_found, .ref ht_alike, .ref ht_table, .ref ht_keys, .ref ht_own, .long vt_seed, .ref ht_isKept, .ref ht_kept])), (ht_drops, .inl (cI, 4, .inl vt_drops)), (ht_tires, .inl (cI, 4, .inl vt_tires)), (ht_now, .inl (cI, 13, .inl vt_now)), (ht_told, .inl (cI, 4, .inl vt_told)), (ht_pages, .inl (cI, 4, .inl vt_pages))] H := hP
    have hD : va_D A [(ht, .inr (5, [.int vt_clerks, .ref ht_drops, .ref ht_tires, .ref ht_now, .ref ht_told, .ref ht_text, .int vt_length, .ref ht_pages, .int vt_acts, .int vt_next, .ref ht_row, .int vt_found, .ref ht_alike, .ref ht_table, .ref ht_keys, .ref ht_own, .long vt_seed, .ref ht_isKept, .ref ht_kept])), (ht_drops, .inl (cI, 4, .inl vt_drops)), (ht_tires, .inl (cI, 4, .inl vt_tires)), (ht_now, .inl (cI, 13, .inl vt_now)), (ht_told, .inl (cI, 4, .inl vt_told)), (ht_pages, .inl (cI, 4, .inl vt_pages))] := hD
    refine lv_if_ne (tgt := 28) hx hb dX6_sure_22 (by decide) (fun c4 => ?_) (fun c4 => ?_)
    · replace hf := dg_f c4 hf
      refine lv_aload_n hx hb dX6_sure_28 rfl (lv_at hl 0 rfl) ?_
      refine lv_iload_n hx hb dX6_sure_29 rfl (lv_at hl 1 rfl) ?_
      obtain ⟨x5, hx5, hf⟩ := dg_bind hf
      have hPc : va_P (dC, dI) vwCl [(ht, .inr (5, [.int vt_clerks, .ref ht_drops, .ref ht_tires, .ref ht_now, .ref ht_told, .ref ht_text, .int vt_length, .ref ht_pages, .int vt_acts, .int vt_next, .ref ht_row, .int vt_found, .ref ht_alike, .ref ht_table, .ref ht_keys, .ref ht_own, .long vt_seed, .ref ht_isKept, .ref ht_kept])), (ht_drops, .inl (cI, 4, .inl vt_drops)), (ht_tires, .inl (cI, 4, .inl vt_tires)), (ht_now, .inl (cI, 13, .inl vt_now)), (ht_told, .inl (cI, 4, .inl vt_told)), (ht_pages, .inl (cI, 4, .inl vt_pages))] H := hP.sub [0, 1, 2, 3, 4, 5] rfl
      have hDc : va_D A [(ht, .inr (5, [.int vt_clerks, .ref ht_drops, .ref ht_tires, .ref ht_now, .ref ht_told, .ref ht_text, .int vt_length, .ref ht_pages, .int vt_acts, .int vt_next, .ref ht_row, .int vt_found, .ref ht_alike, .ref ht_table, .ref ht_keys, .ref ht_own, .long vt_seed, .ref ht_isKept, .ref ht_kept])), (ht_drops, .inl (cI, 4, .inl vt_drops)), (ht_tires, .inl (cI, 4, .inl vt_tires)), (ht_now, .inl (cI, 13, .inl vt_now)), (ht_told, .inl (cI, 4, .inl vt_told)), (ht_pages, .inl (cI, 4, .inl vt_pages))] := hD.sub [0, 1, 2, 3, 4, 5] (by decide) rfl
      have hFc := va_free (wc := [(ht, .inr (5, [.int vt_clerks, .ref ht_drops, .ref ht_tires, .ref ht_now, .ref ht_told, .ref ht_text, .int vt_length, .ref ht_pages, .int vt_acts, .int vt_next, .ref ht_row, .int vt_found, .ref ht_alike, .ref ht_table, .ref ht_keys, .ref ht_own, .long vt_seed, .ref ht_isKept, .ref ht_kept])), (ht_drops, .inl (cI, 4, .inl vt_drops)), (ht_tires, .inl (cI, 4, .inl vt_tires)), (ht_now, .inl (cI, 13, .inl vt_now)), (ht_told, .inl (cI, 4, .inl vt_told)), (ht_pages, .inl (cI, 4, .inl vt_pages))]) hD hS hA [0, 1, 2, 3, 4, 5] rfl
      refine va_calli (va_runV (As := [.int a1]) (rest := []) ⟨hx, hb, hml, hown, hts⟩ (k_X6_fits l dC dI cI cJ cZ H.size ht ht_drops ht_tires ht_now ht_told ht_text ht_pages ht_row ht_alike ht_table ht_keys ht_own ht_isKept ht_kept a1 vt_clerks vt_length vt_acts vt_next vt_found vt_seed vt_drops vt_tires vt_now vt_told vt_pages N x5 hx5) (cwV 1 hts gX6_sure_X6_fits rfl rfl rfl hd_X6_fits ⟨Nat.le_of_ble_eq_true rfl, Nat.le_of_ble_eq_true rfl⟩) ⟨blind_pc, va_recv hK hPc (ci := 5) (q0 := 0) rfl rfl, pre_pc hPc hK hDc⟩ rfl rfl hl.1 rfl (lv_room (Nat.le_of_ble_eq_true rfl)) dX6_sure_30 ⟨Nat.zero_le _, Nat.zero_le _⟩) hS (fun q _ h => hFc q h) hFc (fun r u t H1 locs eth hvm hw hB hz1 hk1 hS => ?_)
      obtain ⟨hP1, hK1, hD1⟩ := hB
      rw [eth] at hP1
      obtain ⟨hw, hw2⟩ := hw
      subst hw; subst hw2
      obtain ⟨hP, hD⟩ := va_join (wr := []) (w1 := [(ht, .inr (5, [.int vt_clerks, .ref ht_drops, .ref ht_tires, .ref ht_now, .ref ht_told, .ref ht_text, .int vt_length, .ref ht_pages, .int vt_acts, .int vt_next, .ref ht_row, .int vt_found, .ref ht_alike, .ref ht_table, .ref ht_keys, .ref ht_own, .long vt_seed, .ref ht_isKept, .ref ht_kept])), (ht_drops, .inl (cI, 4, .inl vt_drops)), (ht_tires, .inl (cI, 4, .inl vt_tires)), (ht_now, .inl (cI, 13, .inl vt_now)), (ht_told, .inl (cI, 4, .inl vt_told)), (ht_pages, .inl (cI, 4, .inl x5.2))]) hP hD [0, 1, 2, 3, 4, 5] [] rfl rfl (by decide) (by decide) hk1 hFc hP1 hD1
      clear hP1 hK1 hD1 hPc hDc hFc hk1 hz1 hvm eth
      generalize H1 = H at hP hS ⊢
      have hP : va_P (dC, dI) vwCl [(ht, .inr (5, [.int vt_clerks, .ref ht_drops, .ref ht_tires, .ref ht_now, .ref ht_told, .ref ht_text, .int vt_length, .ref ht_pages, .int vt_acts, .int vt_next, .ref ht_row, .int vt_found, .ref ht_alike, .ref ht_table, .ref ht_keys, .ref ht_own, .long vt_seed, .ref ht_isKept, .ref ht_kept])), (ht_drops, .inl (cI, 4, .inl vt_drops)), (ht_tires, .inl (cI, 4, .inl vt_tires)), (ht_now, .inl (cI, 13, .inl vt_now)), (ht_told, .inl (cI, 4, .inl vt_told)), (ht_pages, .inl (cI, 4, .inl x5.2))] H := hP
      have hD : va_D A [(ht, .inr (5, [.int vt_clerks, .ref ht_drops, .ref ht_tires, .ref ht_now, .ref ht_told, .ref ht_text, .int vt_length, .ref ht_pages, .int vt_acts, .int vt_next, .ref ht_row, .int vt_found, .ref ht_alike, .ref ht_table, .ref ht_keys, .ref ht_own, .long vt_seed, .ref ht_isKept, .ref ht_kept])), (ht_drops, .inl (cI, 4, .inl vt_drops)), (ht_tires, .inl (cI, 4, .inl vt_tires)), (ht_now, .inl (cI, 13, .inl vt_now)), (ht_told, .inl (cI, 4, .inl vt_told)), (ht_pages, .inl (cI, 4, .inl x5.2))] := hD
      refine lv_istore_n (lv' := [(3, .int x5.1), (0, .ref ht), (1, .int a1), (2, .int a2)]) hx hb dX6_sure_33 rfl hl (by decide) rfl (fun ls hl => ?_)
      refine lv_iconst (v := 0) hx hb dX6_sure_34 (by decide) ?_
      refine lv_istore (lv' := [(4, .int (0:Int32)), (3, .int x5.1), (0, .ref ht), (1, .int a1), (2, .int a2)]) hx hb dX6_sure_35 hl (by decide) rfl (fun ls hl => ?_)
      have ex37 : ∀ (z4_37 : Int32) (zvt_pages_37 : (Nat → Int32)) (H : Heap) (locs : List Loc) (ls : Array Slot), va_P (dC, dI) vwCl [(ht, .inr (5, [.int vt_clerks, .ref ht_drops, .ref ht_tires, .ref ht_now, .ref ht_told, .ref ht_text, .int vt_length, .ref ht_pages, .int vt_acts, .int vt_next, .ref ht_row, .int vt_found, .ref ht_alike, .ref ht_table, .ref ht_keys, .ref ht_own, .long vt_seed, .ref ht_isKept, .ref ht_kept])), (ht_drops, .inl (cI, 4, .inl vt_drops)), (ht_tires, .inl (cI, 4, .inl vt_tires)), (ht_now, .inl (cI, 13, .inl vt_now)), (ht_told, .inl (cI, 4, .inl vt_told)), (ht_pages, .inl (cI, 4, .inl zvt_pages_37))] H → va_D A [(ht, .inr (5, [.int vt_clerks, .ref ht_drops, .ref ht_tires, .ref ht_now, .ref ht_told, .ref ht_text, .int vt_length, .ref ht_pages, .int vt_acts, .int vt_next, .ref ht_row, .int vt_found, .ref ht_alike, .ref ht_table, .ref ht_keys, .ref ht_own, .long vt_seed, .ref ht_isKept, .ref ht_kept])), (ht_drops, .inl (cI, 4, .inl vt_drops)), (ht_tires, .inl (cI, 4, .inl vt_tires)), (ht_now, .inl (cI, 13, .inl vt_now)), (ht_told, .inl (cI, 4, .inl vt_told)), (ht_pages, .inl (cI, 4, .inl zvt_pages_37))] → va_S A s.heap H locs → lv_has ls 5 [(4, .int z4_37), (3, .int x5.1), (0, .ref ht), (1, .int a1), (2, .int a2)] → (some ((-9:Int32), zvt_pages_37)) = some R → W p l e (rm_X6_sure) s m ([.ref ht, .int a1, .int a2] : List Value).toArray below meth c H locs 0 0 (MQ below (q_X6_sure dC dI cI cJ cZ ht ht_drops ht_tires ht_now ht_told ht_text ht_pages ht_row ht_alike ht_table ht_keys ht_own ht_isKept ht_kept vt_clerks vt_length vt_acts vt_next vt_found vt_seed vt_drops vt_tires vt_now vt_told R A) ([.ref ht, .int a1, .int a2] : List Value).toArray s 0 0 A) (F0 m 68 ls []) := by
        intro z4_37 zvt_pages_37 H locs ls hP hD hS hl hf
        refine lv_bipush (v := -9) hx hb dX6_sure_68 (by decide) ?_
        have he := Option.some.inj hf
        have hP9 := hP
        have hD9 := hD
        exact W.iret (v := (-9:Int32)) hx hb hr (fun t eth hW => ⟨⟨(-9:Int32), zvt_pages_37, rfl, ⟨(congrArg Prod.fst he).symm, (congrArg Prod.snd he).symm⟩, by rw [eth]; exact hP9, va_K.moved hW.alike hK, hD9⟩, hS.F eth⟩) hS.2.2 dX6_sure_70
      have lp37 : ∀ (n37 : Nat) (y4_37 : Int32) (yvt_pages_37 : (Nat → Int32)) (H : Heap) (locs : List Loc) (ls : Array Slot), va_P (dC, dI) vwCl [(ht, .inr (5, [.int vt_clerks, .ref ht_drops, .ref ht_tires, .ref ht_now, .ref ht_told, .ref ht_text, .int vt_length, .ref ht_pages, .int vt_acts, .int vt_next, .ref ht_row, .int vt_found, .ref ht_alike, .ref ht_table, .ref ht_keys, .ref ht_own, .long vt_seed, .ref ht_isKept, .ref ht_kept])), (ht_drops, .inl (cI, 4, .inl vt_drops)), (ht_tires, .inl (cI, 4, .inl vt_tires)), (ht_now, .inl (cI, 13, .inl vt_now)), (ht_told, .inl (cI, 4, .inl vt_told)), (ht_pages, .inl (cI, 4, .inl yvt_pages_37))] H → va_D A [(ht, .inr (5, [.int vt_clerks, .ref ht_drops, .ref ht_tires, .ref ht_now, .ref ht_told, .ref ht_text, .int vt_length, .ref ht_pages, .int vt_acts, .int vt_next, .ref ht_row, .int vt_found, .ref ht_alike, .ref ht_table, .ref ht_keys, .ref ht_own, .long vt_seed, .ref ht_isKept, .ref ht_kept])), (ht_drops, .inl (cI, 4, .inl vt_drops)), (ht_tires, .inl (cI, 4, .inl vt_tires)), (ht_now, .inl (cI, 13, .inl vt_now)), (ht_told, .inl (cI, 4, .inl vt_told)), (ht_pages, .inl (cI, 4, .inl yvt_pages_37))] → va_S A s.heap H locs → lv_has ls 5 [(4, .int y4_37), (3, .int x5.1), (0, .ref ht), (1, .int a1), (2, .int a2)] → f_X6_sure_37 N a1 a2 vt_clerks vt_drops vt_tires vt_now vt_told x5 (fun z4_37 zvt_pages_37 => some ((-9:Int32), zvt_pages_37)) n37 y4_37 yvt_pages_37 = some R → W p l e (rm_X6_sure) s m ([.ref ht, .int a1, .int a2] : List Value).toArray below meth c H locs 0 0 (MQ below (q_X6_sure dC dI cI cJ cZ ht ht_drops ht_tires ht_now ht_told ht_text ht_pages ht_row ht_alike ht_table ht_keys ht_own ht_isKept ht_kept vt_clerks vt_length vt_acts vt_next vt_found vt_seed vt_drops vt_tires vt_now vt_told R A) ([.ref ht, .int a1, .int a2] : List Value).toArray s 0 0 A) (F0 m 37 ls []) := by
        intro n37
        induction n37 with
        | zero => intro y4_37 yvt_pages_37 H locs ls hP hD hS hl hf; rw [f_X6_sure_37] at hf; cases hf
        | succ n37 ih37 =>
          intro y4_37 yvt_pages_37 H locs ls hP hD hS hl hf
          rw [f_X6_sure_37] at hf
          refine lv_iload hx hb dX6_sure_37 (lv_at hl 0 rfl) ?_
          refine lv_iconst (v := 4) hx hb dX6_sure_39 (by decide) ?_
          refine lv_icmp_ge (tgt := 68) hx hb dX6_sure_40 (by decide) (fun c6 => ?_) (fun c6 => ?_)
          · replace hf := dg_t c6 hf
            exact ex37 y4_37 yvt_pages_37 _ _ _ hP hD hS (lv_sub hl [0, 1, 2, 3, 4] rfl) hf
          · replace hf := dg_f c6 hf
            refine lv_iload_n hx hb dX6_sure_43 rfl (lv_at hl 1 rfl) ?_
            refine lv_if_le (tgt := 68) hx hb dX6_sure_44 (by decide) (fun c7 => ?_) (fun c7 => ?_)
            · replace hf := dg_t c7 hf
              exact ex37 y4_37 yvt_pages_37 _ _ _ hP hD hS (lv_sub hl [0, 1, 2, 3, 4] rfl) hf
            · replace hf := dg_f c7 hf
              refine lv_aload_n hx hb dX6_sure_47 rfl (lv_at hl 2 rfl) ?_
              refine lv_iload_n hx hb dX6_sure_48 rfl (lv_at hl 3 rfl) ?_
              refine lv_iload_n hx hb dX6_sure_49 rfl (lv_at hl 4 rfl) ?_
              refine lv_iload hx hb dX6_sure_50 (lv_at hl 0 rfl) ?_
              obtain ⟨x8, hx8, hf⟩ := dg_bind hf
              have hPc : va_P (dC, dI) vwCl [(ht, .inr (5, [.int vt_clerks, .ref ht_drops, .ref ht_tires, .ref ht_now, .ref ht_told, .ref ht_text, .int vt_length, .ref ht_pages, .int vt_acts, .int vt_next, .ref ht_row, .int vt_found, .ref ht_alike, .ref ht_table, .ref ht_keys, .ref ht_own, .long vt_seed, .ref ht_isKept, .ref ht_kept])), (ht_drops, .inl (cI, 4, .inl vt_drops)), (ht_tires, .inl (cI, 4, .inl vt_tires)), (ht_now, .inl (cI, 13, .inl vt_now)), (ht_told, .inl (cI, 4, .inl vt_told)), (ht_pages, .inl (cI, 4, .inl yvt_pages_37))] H := hP.sub [0, 1, 2, 3, 4, 5] rfl
              have hDc : va_D A [(ht, .inr (5, [.int vt_clerks, .ref ht_drops, .ref ht_tires, .ref ht_now, .ref ht_told, .ref ht_text, .int vt_length, .ref ht_pages, .int vt_acts, .int vt_next, .ref ht_row, .int vt_found, .ref ht_alike, .ref ht_table, .ref ht_keys, .ref ht_own, .long vt_seed, .ref ht_isKept, .ref ht_kept])), (ht_drops, .inl (cI, 4, .inl vt_drops)), (ht_tires, .inl (cI, 4, .inl vt_tires)), (ht_now, .inl (cI, 13, .inl vt_now)), (ht_told, .inl (cI, 4, .inl vt_told)), (ht_pages, .inl (cI, 4, .inl yvt_pages_37))] := hD.sub [0, 1, 2, 3, 4, 5] (by decide) rfl
              have hFc := va_free (wc := [(ht, .inr (5, [.int vt_clerks, .ref ht_drops, .ref ht_tires, .ref ht_now, .ref ht_told, .ref ht_text, .int vt_length, .ref ht_pages, .int vt_acts, .int vt_next, .ref ht_row, .int vt_found, .ref ht_alike, .ref ht_table, .ref ht_keys, .ref ht_own, .long vt_seed, .ref ht_isKept, .ref ht_kept])), (ht_drops, .inl (cI, 4, .inl vt_drops)), (ht_tires, .inl (cI, 4, .inl vt_tires)), (ht_now, .inl (cI, 13, .inl vt_now)), (ht_told, .inl (cI, 4, .inl vt_told)), (ht_pages, .inl (cI, 4, .inl yvt_pages_37))]) hD hS hA [0, 1, 2, 3, 4, 5] rfl
              refine va_calli (va_runV (As := [.int a1, .int a2, .int y4_37]) (rest := []) ⟨hx, hb, hml, hown, hts⟩ (k_X6_fitsWith l dC dI cI cJ cZ H.size ht ht_drops ht_tires ht_now ht_told ht_text ht_pages ht_row ht_alike ht_table ht_keys ht_own ht_isKept ht_kept a1 a2 y4_37 vt_clerks vt_length vt_acts vt_next vt_found vt_seed vt_drops vt_tires vt_now vt_told yvt_pages_37 N x8 hx8) (cwV 3 hts gX6_sure_X6_fitsWith rfl rfl rfl hd_X6_fitsWith ⟨Nat.le_of_ble_eq_true rfl, Nat.le_of_ble_eq_true rfl⟩) ⟨blind_pc, va_recv hK hPc (ci := 5) (q0 := 0) rfl rfl, pre_pc hPc hK hDc⟩ rfl rfl hl.1 rfl (lv_room (Nat.le_of_ble_eq_true rfl)) dX6_sure_52 ⟨Nat.zero_le _, Nat.zero_le _⟩) hS (fun q _ h => hFc q h) hFc (fun r u t H1 locs eth hvm hw hB hz1 hk1 hS => ?_)
              obtain ⟨hP1, hK1, hD1⟩ := hB
              rw [eth] at hP1
              obtain ⟨hw, hw2⟩ := hw
              subst hw; subst hw2
              obtain ⟨hP, hD⟩ := va_join (wr := []) (w1 := [(ht, .inr (5, [.int vt_clerks, .ref ht_drops, .ref ht_tires, .ref ht_now, .ref ht_told, .ref ht_text, .int vt_length, .ref ht_pages, .int vt_acts, .int vt_next, .ref ht_row, .int vt_found, .ref ht_alike, .ref ht_table, .ref ht_keys, .ref ht_own, .long vt_seed, .ref ht_isKept, .ref ht_kept])), (ht_drops, .inl (cI, 4, .inl vt_drops)), (ht_tires, .inl (cI, 4, .inl vt_tires)), (ht_now, .inl (cI, 13, .inl vt_now)), (ht_told, .inl (cI, 4, .inl vt_told)), (ht_pages, .inl (cI, 4, .inl x8.2))]) hP hD [0, 1, 2, 3, 4, 5] [] rfl rfl (by decide) (by decide) hk1 hFc hP1 hD1
              clear hP1 hK1 hD1 hPc hDc hFc hk1 hz1 hvm eth
              generalize H1 = H at hP hS ⊢
              have hP : va_P (dC, dI) vwCl [(ht, .inr (5, [.int vt_clerks, .ref ht_drops, .ref ht_tires, .ref ht_now, .ref ht_told, .ref ht_text, .int vt_length, .ref ht_pages, .int vt_acts, .int vt_next, .ref ht_row, .int vt_found, .ref ht_alike, .ref ht_table, .ref ht_keys, .ref ht_own, .long vt_seed, .ref ht_isKept, .ref ht_kept])), (ht_drops, .inl (cI, 4, .inl vt_drops)), (ht_tires, .inl (cI, 4, .inl vt_tires)), (ht_now, .inl (cI, 13, .inl vt_now)), (ht_told, .inl (cI, 4, .inl vt_told)), (ht_pages, .inl (cI, 4, .inl x8.2))] H := hP
              have hD : va_D A [(ht, .inr (5, [.int vt_clerks, .ref ht_drops, .ref ht_tires, .ref ht_now, .ref ht_told, .ref ht_text, .int vt_length, .ref ht_pages, .int vt_acts, .int vt_next, .ref ht_row, .int vt_found, .ref ht_alike, .ref ht_table, .ref ht_keys, .ref ht_own, .long vt_seed, .ref ht_isKept, .ref ht_kept])), (ht_drops, .inl (cI, 4, .inl vt_drops)), (ht_tires, .inl (cI, 4, .inl vt_tires)), (ht_now, .inl (cI, 13, .inl vt_now)), (ht_told, .inl (cI, 4, .inl vt_told)), (ht_pages, .inl (cI, 4, .inl x8.2))] := hD
              refine lv_iload_n hx hb dX6_sure_55 rfl (lv_at hl 1 rfl) ?_
              refine lv_icmp_ne (tgt := 62) hx hb dX6_sure_56 (by decide) (fun c9 => ?_) (fun c9 => ?_)
              · replace hf := dg_f c9 hf
                refine lv_iinc (v := (y4_37 + (1:Int32))) (lv' := [(4, .int (y4_37 + (1:Int32))), (3, .int x5.1), (0, .ref ht), (1, .int a1), (2, .int a2)]) hx hb dX6_sure_62 hl (k := 0) rfl (by first | rfl | decide) (by decide) rfl (fun ls hl => ?_)
                refine lv_goto (tgt := 37) hx hb dX6_sure_65 (by decide) ?_
                exact ih37 (y4_37 + (1:Int32)) x8.2 _ _ _ hP hD hS (lv_sub hl [0, 1, 2, 3, 4] rfl) hf
              · replace hf := dg_t c9 hf
                refine lv_iload hx hb dX6_sure_59 (lv_at hl 0 rfl) ?_
                have he := Option.some.inj hf
                have hP9 := hP
                have hD9 := hD
                exact W.iret (v := y4_37) hx hb hr (fun t eth hW => ⟨⟨y4_37, x8.2, rfl, ⟨(congrArg Prod.fst he).symm, (congrArg Prod.snd he).symm⟩, by rw [eth]; exact hP9, va_K.moved hW.alike hK, hD9⟩, hS.F eth⟩) hS.2.2 dX6_sure_61
      exact lp37 N (0:Int32) x5.2 _ _ _ hP hD hS hl hf
    · replace hf := dg_t c4 hf
      refine lv_bipush (v := -2) hx hb dX6_sure_25 (by decide) ?_
      have he := Option.some.inj hf
      have hP9 := hP
      have hD9 := hD
      exact W.iret (v := (-2:Int32)) hx hb hr (fun t eth hW => ⟨⟨(-2:Int32), vt_pages, rfl, ⟨(congrArg Prod.fst he).symm, (congrArg Prod.snd he).symm⟩, by rw [eth]; exact hP9, va_K.moved hW.alike hK, hD9⟩, hS.F eth⟩) hS.2.2 dX6_sure_27
theorem hd_X6_common : yX6_common.cls ≠ "java/lang/invoke/MethodHandle" ∧ yX6_common.cls ≠ "java/lang/invoke/VarHandle" ∧ (parseMethodDescriptor yX6_common.desc).map (fun d => d.parameters.length) = some 2 := by decide +kernel
abbrev rm_X6_common : Room := { frames := 0, cells := 0, slots := 0, locals := 0 }
abbrev q_X6_common (dC : Nat → ClassId) (dI : Nat → Nat → Nat) (cI cJ cZ : ClassId) (R : Int32) (A : Nat → Prop) : Array Value → State → Outcome → State → Prop := va_Qi (fun (r : Int32) (_ : Unit) => R = r) (fun (u : Unit) (t : State) => va_P (dC, dI) vwCl [] t.heap ∧ va_K (dC, dI) vwCl [(cI, .int), (cJ, .long), (cZ, .boolean)] t ∧ va_D A []) A
set_option maxHeartbeats 4000000 in
set_option maxRecDepth 100000 in
theorem k_X6_common (l : Launch) (dC : Nat → ClassId) (dI : Nat → Nat → Nat) (cI cJ cZ : ClassId) (sz : Nat) (a0 : Int32) (a1 : Int32) (N : Nat) (R : Int32) (hf : f_X6_common N a0 a1 = some R) : Met l yX6_common wsX6_common (rm_X6_common) (va_Pc [.int a0, .int a1] (fun U => U.heap.size = sz ∧ va_P (dC, dI) vwCl [] U.heap ∧ va_K (dC, dI) vwCl [(cI, .int), (cJ, .long), (cZ, .boolean)] U ∧ va_D (fun _ => True) [])) (q_X6_common dC dI cI cJ cZ  R (va_A [] sz)) 0 0 (va_A [] sz) := by
  refine Met.ofW (cc := cX6_common) (maxL := 5) (ret := (some .int)) (by decide) rfl ?_
  intro p e s m args below meth c s₁ B hml hv
  obtain ⟨rfl, hsz, hP, hK, hD0⟩ := hv
  have hx := B.exec
  have hb := B.bytes
  have hr := B.returns
  have hts := atoms_spec (ws := wsX6_common) B.pre
  have hown : s.vm.findClass RX6 = some m.cls := findClass_of_methodNamed B.named
  have hlocks := B.notSynchronized
  clear B
  subst hsz
  have hD := hD0.self (sz := s.heap.size)
  clear hD0
  generalize hAe : va_A [] s.heap.size = A at hD ⊢
  have hA : ∀ q : Nat, s.heap.size ≤ q → A q := fun q h => by rw [← hAe]; exact Or.inr h
  clear hAe
  have hS : va_S A s.heap s.heap [] := va_S.rf
  have hl := lv_entry ([.int a0, .int a1]) (n := 5) (Nat.le_of_ble_eq_true rfl)
  rw [lg_entry_eq]
  generalize (lg_sl ([.int a0, .int a1]) ++ List.replicate (5 - (lg_sl ([.int a0, .int a1])).length) Slot.unset).toArray = ls at hl ⊢
  have hl : lv_has ls 5 [(0, .int a0), (1, .int a1)] := hl
  unfold f_X6_common at hf
  refine lv_iload_n hx hb dX6_common_0 rfl (lv_at hl 0 rfl) ?_
  refine lv_istore_n (lv' := [(2, .int a0), (0, .int a0), (1, .int a1)]) hx hb dX6_common_1 rfl hl (by decide) rfl (fun ls hl => ?_)
  refine lv_iload_n hx hb dX6_common_2 rfl (lv_at hl 2 rfl) ?_
  refine lv_istore_n (lv' := [(3, .int a1), (2, .int a0), (0, .int a0), (1, .int a1)]) hx hb dX6_common_3 rfl hl (by decide) rfl (fun ls hl => ?_)
  have ex4 : ∀ (z2_4 : Int32) (z3_4 : Int32) (H : Heap) (locs : List Loc) (ls : Array Slot), va_P (dC, dI) vwCl [] H → va_D A [] → va_S A s.heap H locs → lv_has ls 5 [(3, .int z3_4), (2, .int z2_4), (0, .int a0), (1, .int a1)] → (some z2_4) = some R → W p l e (rm_X6_common) s m ([.int a0, .int a1] : List Value).toArray below meth c H locs 0 0 (MQ below (q_X6_common dC dI cI cJ cZ  R A) ([.int a0, .int a1] : List Value).toArray s 0 0 A) (F0 m 21 ls []) := by
    intro z2_4 z3_4 H locs ls hP hD hS hl hf
    refine lv_iload_n hx hb dX6_common_21 rfl (lv_at hl 1 rfl) ?_
    have he := Option.some.inj hf
    have hP9 := hP
    have hD9 := hD
    exact W.iret (v := z2_4) hx hb hr (fun t eth hW => ⟨⟨z2_4, (), rfl, he.symm, by rw [eth]; exact hP9, va_K.moved hW.alike hK, hD9⟩, hS.F eth⟩) hS.2.2 dX6_common_22
  have lp4 : ∀ (n4 : Nat) (y2_4 : Int32) (y3_4 : Int32) (H : Heap) (locs : List Loc) (ls : Array Slot), va_P (dC, dI) vwCl [] H → va_D A [] → va_S A s.heap H locs → lv_has ls 5 [(3, .int y3_4), (2, .int y2_4), (0, .int a0), (1, .int a1)] → f_X6_common_4 N (fun z2_4 z3_4 => some z2_4) n4 y2_4 y3_4 = some R → W p l e (rm_X6_common) s m ([.int a0, .int a1] : List Value).toArray below meth c H locs 0 0 (MQ below (q_X6_common dC dI cI cJ cZ  R A) ([.int a0, .int a1] : List Value).toArray s 0 0 A) (F0 m 4 ls []) := by
    intro n4
    induction n4 with
    | zero => intro y2_4 y3_4 H locs ls hP hD hS hl hf; rw [f_X6_common_4] at hf; cases hf
    | succ n4 ih4 =>
      intro y2_4 y3_4 H locs ls hP hD hS hl hf
      rw [f_X6_common_4] at hf
      refine lv_iload_n hx hb dX6_common_4 rfl (lv_at hl 0 rfl) ?_
      refine lv_if_eq (tgt := 21) hx hb dX6_common_5 (by decide) (fun c1 => ?_) (fun c1 => ?_)
      · replace hf := dg_t c1 hf
        exact ex4 y2_4 y3_4 _ _ _ hP hD hS (lv_sub hl [0, 1, 2, 3] rfl) hf
      · replace hf := dg_f c1 hf
        refine lv_iload_n hx hb dX6_common_8 rfl (lv_at hl 1 rfl) ?_
        refine lv_iload_n hx hb dX6_common_9 rfl (lv_at hl 0 rfl) ?_
        obtain ⟨hnz2, hf⟩ := dg_nz hf
        refine lv_irem hx hb dX6_common_10 hnz2 ?_
        refine lv_istore (lv' := [(4, .int (y2_4 - y2_4 / y3_4 * y3_4)), (3, .int y3_4), (2, .int y2_4), (0, .int a0), (1, .int a1)]) hx hb dX6_common_11 hl (by decide) rfl (fun ls hl => ?_)
        refine lv_iload_n hx hb dX6_common_13 rfl (lv_at hl 1 rfl) ?_
        refine lv_istore_n (lv' := [(2, .int y3_4), (4, .int (y2_4 - y2_4 / y3_4 * y3_4)), (3, .int y3_4), (0, .int a0), (1, .int a1)]) hx hb dX6_common_14 rfl hl (by decide) rfl (fun ls hl => ?_)
        refine lv_iload hx hb dX6_common_15 (lv_at hl 1 rfl) ?_
        refine lv_istore_n (lv' := [(3, .int (y2_4 - y2_4 / y3_4 * y3_4)), (2, .int y3_4), (4, .int (y2_4 - y2_4 / y3_4 * y3_4)), (0, .int a0), (1, .int a1)]) hx hb dX6_common_17 rfl hl (by decide) rfl (fun ls hl => ?_)
        refine lv_goto (tgt := 4) hx hb dX6_common_18 (by decide) ?_
        exact ih4 y3_4 (y2_4 - y2_4 / y3_4 * y3_4) _ _ _ hP hD hS (lv_sub hl [0, 1, 3, 4] rfl) hf
  exact lp4 N a0 a1 _ _ _ hP hD hS hl hf
theorem hd_X6_likely : yX6_likely.cls = RX6 ∧ yX6_likely.cls ≠ "java/lang/invoke/MethodHandle" ∧ yX6_likely.cls ≠ "java/lang/invoke/VarHandle" ∧ (parseMethodDescriptor yX6_likely.desc).map (fun d => d.parameters.length) = some 4 := by decide +kernel
abbrev rm_X6_likely : Room := { frames := 6, cells := 0, slots := 0, locals := 141 }
abbrev q_X6_likely (dC : Nat → ClassId) (dI : Nat → Nat → Nat) (cI cJ cZ : ClassId) (ht ht_drops ht_tires ht_now ht_told ht_text ht_pages ht_row ht_alike ht_table ht_keys ht_own ht_isKept ht_kept : Nat) (vt_clerks : Int32) (vt_length : Int32) (vt_acts : Int32) (vt_next : Int32) (vt_found : Int32) (vt_seed : Int64) (vt_drops : Nat → Int32) (vt_tires : Nat → Int32) (vt_now : Nat → Int32) (vt_told : Nat → Int32) (R : Int32 × (Nat → Int32)) (A : Nat → Prop) : Array Value → State → Outcome → State → Prop := va_Qi (fun (r : Int32) (u : (Nat → Int32)) => R.1 = r ∧ R.2 = u) (fun (u : (Nat → Int32)) (t : State) => va_P (dC, dI) vwCl [(ht, .inr (5, [.int vt_clerks, .ref ht_drops, .ref ht_tires, .ref ht_now, .ref ht_told, .ref ht_text, .int vt_length, .ref ht_pages, .int vt_acts, .int vt_next, .ref ht_row, .int vt_found, .ref ht_alike, .ref ht_table, .ref ht_keys, .ref ht_own, .long vt_seed, .ref ht_isKept, .ref ht_kept])), (ht_drops, .inl (cI, 4, .inl vt_drops)), (ht_tires, .inl (cI, 4, .inl vt_tires)), (ht_now, .inl (cI, 13, .inl vt_now)), (ht_told, .inl (cI, 4, .inl vt_told)), (ht_pages, .inl (cI, 4, .inl u))] t.heap ∧ va_K (dC, dI) vwCl [(cI, .int), (cJ, .long), (cZ, .boolean)] t ∧ va_D A [(ht, .inr (5, [.int vt_clerks, .ref ht_drops, .ref ht_tires, .ref ht_now, .ref ht_told, .ref ht_text, .int vt_length, .ref ht_pages, .int vt_acts, .int vt_next, .ref ht_row, .int vt_found, .ref ht_alike, .ref ht_table, .ref ht_keys, .ref ht_own, .long vt_seed, .ref ht_isKept, .ref ht_kept])), (ht_drops, .inl (cI, 4, .inl vt_drops)), (ht_tires, .inl (cI, 4, .inl vt_tires)), (ht_now, .inl (cI, 13, .inl vt_now)), (ht_told, .inl (cI, 4, .inl vt_told)), (ht_pages, .inl (cI, 4, .inl u))]) A
set_option maxHeartbeats 4000000 in
set_option maxRecDepth 100000 in
theorem k_X6_likely (l : Launch) (dC : Nat → ClassId) (dI : Nat → Nat → Nat) (cI cJ cZ : ClassId) (sz : Nat) (ht ht_drops ht_tires ht_now ht_told ht_text ht_pages ht_row ht_alike ht_table ht_keys ht_own ht_isKept ht_kept : Nat) (a1 : Int32) (a2 : Int32) (a3 : Int32) (a4 : Int32) (vt_clerks : Int32) (vt_length : Int32) (vt_acts : Int32) (vt_next : Int32) (vt_found : Int32) (vt_seed : Int64) (vt_drops : Nat → Int32) (vt_tires : Nat → Int32) (vt_now : Nat → Int32) (vt_told : Nat → Int32) (vt_pages : Nat → Int32) (N : Nat) (R : Int32 × (Nat → Int32)) (hf : f_X6_likely N a1 a2 a3 a4 vt_clerks vt_drops vt_tires vt_now vt_told vt_pages = some R) : Met l yX6_likely wsX6_likely (rm_X6_likely) (va_Pc [.ref ht, .int a1, .int a2, .int a3, .int a4] (fun U => U.heap.size = sz ∧ va_P (dC, dI) vwCl [(ht, .inr (5, [.int vt_clerks, .ref ht_drops, .ref ht_tires, .ref ht_now, .ref ht_told, .ref ht_text, .int vt_length, .ref ht_pages, .int vt_acts, .int vt_next, .ref ht_row, .int vt_found, .ref ht_alike, .ref ht_table, .ref ht_keys, .ref ht_own, .long vt_seed, .ref ht_isKept, .ref ht_kept])), (ht_drops, .inl (cI, 4, .inl vt_drops)), (ht_tires, .inl (cI, 4, .inl vt_tires)), (ht_now, .inl (cI, 13, .inl vt_now)), (ht_told, .inl (cI, 4, .inl vt_told)), (ht_pages, .inl (cI, 4, .inl vt_pages))] U.heap ∧ va_K (dC, dI) vwCl [(cI, .int), (cJ, .long), (cZ, .boolean)] U ∧ va_D (fun _ => True) [(ht, .inr (5, [.int vt_clerks, .ref ht_drops, .ref ht_tires, .ref ht_now, .ref ht_told, .ref ht_text, .int vt_length, .ref ht_pages, .int vt_acts, .int vt_next, .ref ht_row, .int vt_found, .ref ht_alike, .ref ht_table, .ref ht_keys, .ref ht_own, .long vt_seed, .ref ht_isKept, .ref ht_kept])), (ht_drops, .inl (cI, 4, .inl vt_drops)), (ht_tires, .inl (cI, 4, .inl vt_tires)), (ht_now, .inl (cI, 13, .inl vt_now)), (ht_told, .inl (cI, 4, .inl vt_told)), (ht_pages, .inl (cI, 4, .inl vt_pages))])) (q_X6_likely dC dI cI cJ cZ ht ht_drops ht_tires ht_now ht_told ht_text ht_pages ht_row ht_alike ht_table ht_keys ht_own ht_isKept ht_kept vt_clerks vt_length vt_acts vt_next vt_found vt_seed vt_drops vt_tires vt_now vt_told R (va_A [(ht, .inr (5, [.int vt_clerks, .ref ht_drops, .ref ht_tires, .ref ht_now, .ref ht_told, .ref ht_text, .int vt_length, .ref ht_pages, .int vt_acts, .int vt_next, .ref ht_row, .int vt_found, .ref ht_alike, .ref ht_table, .ref ht_keys, .ref ht_own, .long vt_seed, .ref ht_isKept, .ref ht_kept])), (ht_drops, .inl (cI, 4, .inl vt_drops)), (ht_tires, .inl (cI, 4, .inl vt_tires)), (ht_now, .inl (cI, 13, .inl vt_now)), (ht_told, .inl (cI, 4, .inl vt_told)), (ht_pages, .inl (cI, 4, .inl vt_pages))] sz)) 0 0 (va_A [(ht, .inr (5, [.int vt_clerks, .ref ht_drops, .ref ht_tires, .ref ht_now, .ref ht_told, .ref ht_text, .int vt_length, .ref ht_pages, .int vt_acts, .int vt_next, .ref ht_row, .int vt_found, .ref ht_alike, .ref ht_table, .ref ht_keys, .ref ht_own, .long vt_seed, .ref ht_isKept, .ref ht_kept])), (ht_drops, .inl (cI, 4, .inl vt_drops)), (ht_tires, .inl (cI, 4, .inl vt_tires)), (ht_now, .inl (cI, 13, .inl vt_now)), (ht_told, .inl (cI, 4, .inl vt_told)), (ht_pages, .inl (cI, 4, .inl vt_pages))] sz) := by
  refine Met.ofW (cc := cX6_likely) (maxL := 8) (ret := (some .int)) (by decide) rfl ?_
  intro p e s m args below meth c s₁ B hml hv
  obtain ⟨rfl, hsz, hP, hK, hD0⟩ := hv
  have hx := B.exec
  have hb := B.bytes
  have hr := B.returns
  have hts := atoms_spec (ws := wsX6_likely) B.pre
  have hown : s.vm.findClass RX6 = some m.cls := findClass_of_methodNamed B.named
  have hlocks := B.notSynchronized
  clear B
  subst hsz
  have hw0 := hts (.constantLong RX6 124 (5)) (by decide +kernel)
  have hw1 := hts (.constantLong RX6 116 (3)) (by decide +kernel)
  have hD := hD0.self (sz := s.heap.size)
  clear hD0
  generalize hAe : va_A [(ht, .inr (5, [.int vt_clerks, .ref ht_drops, .ref ht_tires, .ref ht_now, .ref ht_told, .ref ht_text, .int vt_length, .ref ht_pages, .int vt_acts, .int vt_next, .ref ht_row, .int vt_found, .ref ht_alike, .ref ht_table, .ref ht_keys, .ref ht_own, .long vt_seed, .ref ht_isKept, .ref ht_kept])), (ht_drops, .inl (cI, 4, .inl vt_drops)), (ht_tires, .inl (cI, 4, .inl vt_tires)), (ht_now, .inl (cI, 13, .inl vt_now)), (ht_told, .inl (cI, 4, .inl vt_told)), (ht_pages, .inl (cI, 4, .inl vt_pages))] s.heap.size = A at hD ⊢
  have hA : ∀ q : Nat, s.heap.size ≤ q → A q := fun q h => by rw [← hAe]; exact Or.inr h
  clear hAe
  have hS : va_S A s.heap s.heap [] := va_S.rf
  have hl := lv_entry ([.ref ht, .int a1, .int a2, .int a3, .int a4]) (n := 8) (Nat.le_of_ble_eq_true rfl)
  rw [lg_entry_eq]
  generalize (lg_sl ([.ref ht, .int a1, .int a2, .int a3, .int a4]) ++ List.replicate (8 - (lg_sl ([.ref ht, .int a1, .int a2, .int a3, .int a4])).length) Slot.unset).toArray = ls at hl ⊢
  have hl : lv_has ls 8 [(0, .ref ht), (1, .int a1), (2, .int a2), (3, .int a3), (4, .int a4)] := hl
  unfold f_X6_likely at hf
  refine lv_iload_n hx hb dX6_likely_0 rfl (lv_at hl 1 rfl) ?_
  refine lv_i2l hx hb dX6_likely_1 rfl ?_
  refine lv_lconst (v := 1) hx hb dX6_likely_2 (by decide) ?_
  refine lv_ldc2 (v := 5) hx hb hown hw0 dX6_likely_3 ?_
  obtain ⟨x1, hx1, hf⟩ := dg_bind hf
  have hPc : va_P (dC, dI) vwCl [] s.heap := hP.sub [] rfl
  have hDc : va_D A [] := hD.sub [] (by decide) rfl
  have hFc := va_free (wc := []) hD hS hA [] rfl
  refine va_calli (va_runS (As := [.long a1.toInt64, .long (1:Int64), .long (5:Int64)]) (rest := []) ⟨hx, hb, hml, hown, hts⟩ (k_X6_in l dC dI cI cJ cZ s.heap.size a1.toInt64 (1:Int64) (5:Int64) N x1 hx1) (va_cwS 3 hts gX6_likely_X6_in rfl rfl rfl hd_X6_in ⟨Nat.le_of_ble_eq_true rfl, Nat.le_of_ble_eq_true rfl⟩) ⟨blind_pc, pre_pc hPc hK hDc⟩ rfl rfl hl.1 rfl (lv_room (Nat.le_of_ble_eq_true rfl)) dX6_likely_6 ⟨Nat.zero_le _, Nat.zero_le _⟩) hS (fun q _ h => hFc q h) hFc (fun r u t H1 locs eth hvm hw hB hz1 hk1 hS => ?_)
  obtain ⟨hP1, hK1, hD1⟩ := hB
  rw [eth] at hP1
  subst hw
  obtain ⟨hP, hD⟩ := va_join (wr := [(ht, .inr (5, [.int vt_clerks, .ref ht_drops, .ref ht_tires, .ref ht_now, .ref ht_told, .ref ht_text, .int vt_length, .ref ht_pages, .int vt_acts, .int vt_next, .ref ht_row, .int vt_found, .ref ht_alike, .ref ht_table, .ref ht_keys, .ref ht_own, .long vt_seed, .ref ht_isKept, .ref ht_kept])), (ht_drops, .inl (cI, 4, .inl vt_drops)), (ht_tires, .inl (cI, 4, .inl vt_tires)), (ht_now, .inl (cI, 13, .inl vt_now)), (ht_told, .inl (cI, 4, .inl vt_told)), (ht_pages, .inl (cI, 4, .inl vt_pages))]) (w1 := []) hP hD [] [0, 1, 2, 3, 4, 5] rfl rfl (by decide) (by decide) hk1 hFc hP1 hD1
  clear hP1 hK1 hD1 hPc hDc hFc hk1 hz1 hvm eth
  generalize H1 = H at hP hS ⊢
  have hP : va_P (dC, dI) vwCl [(ht, .inr (5, [.int vt_clerks, .ref ht_drops, .ref ht_tires, .ref ht_now, .ref ht_told, .ref ht_text, .int vt_length, .ref ht_pages, .int vt_acts, .int vt_next, .ref ht_row, .int vt_found, .ref ht_alike, .ref ht_table, .ref ht_keys, .ref ht_own, .long vt_seed, .ref ht_isKept, .ref ht_kept])), (ht_drops, .inl (cI, 4, .inl vt_drops)), (ht_tires, .inl (cI, 4, .inl vt_tires)), (ht_now, .inl (cI, 13, .inl vt_now)), (ht_told, .inl (cI, 4, .inl vt_told)), (ht_pages, .inl (cI, 4, .inl vt_pages))] H := hP
  have hD : va_D A [(ht, .inr (5, [.int vt_clerks, .ref ht_drops, .ref ht_tires, .ref ht_now, .ref ht_told, .ref ht_text, .int vt_length, .ref ht_pages, .int vt_acts, .int vt_next, .ref ht_row, .int vt_found, .ref ht_alike, .ref ht_table, .ref ht_keys, .ref ht_own, .long vt_seed, .ref ht_isKept, .ref ht_kept])), (ht_drops, .inl (cI, 4, .inl vt_drops)), (ht_tires, .inl (cI, 4, .inl vt_tires)), (ht_now, .inl (cI, 13, .inl vt_now)), (ht_told, .inl (cI, 4, .inl vt_told)), (ht_pages, .inl (cI, 4, .inl vt_pages))] := hD
  refine lv_if_eq (tgt := 37) hx hb dX6_likely_9 (by decide) (fun c2 => ?_) (fun c2 => ?_)
  · replace hf := dg_t c2 hf
    refine lv_bipush (v := -2) hx hb dX6_likely_37 (by decide) ?_
    have he := Option.some.inj hf
    have hP9 := hP
    have hD9 := hD
    exact W.iret (v := (-2:Int32)) hx hb hr (fun t eth hW => ⟨⟨(-2:Int32), vt_pages, rfl, ⟨(congrArg Prod.fst he).symm, (congrArg Prod.snd he).symm⟩, by rw [eth]; exact hP9, va_K.moved hW.alike hK, hD9⟩, hS.F eth⟩) hS.2.2 dX6_likely_39
  · replace hf := dg_f c2 hf
    refine lv_iload_n hx hb dX6_likely_12 rfl (lv_at hl 2 rfl) ?_
    refine lv_i2l hx hb dX6_likely_13 rfl ?_
    refine lv_lconst (v := 0) hx hb dX6_likely_14 (by decide) ?_
    refine lv_iload_n hx hb dX6_likely_15 rfl (lv_at hl 1 rfl) ?_
    refine lv_iconst (v := 1) hx hb dX6_likely_16 (by decide) ?_
    refine lv_isub hx hb dX6_likely_17 ?_
    refine lv_i2l hx hb dX6_likely_18 rfl ?_
    obtain ⟨x3, hx3, hf⟩ := dg_bind hf
    have hPc : va_P (dC, dI) vwCl [] H := hP.sub [] rfl
    have hDc : va_D A [] := hD.sub [] (by decide) rfl
    have hFc := va_free (wc := []) hD hS hA [] rfl
    refine va_calli (va_runS (As := [.long a2.toInt64, .long (0:Int64), .long (a1 - (1:Int32)).toInt64]) (rest := []) ⟨hx, hb, hml, hown, hts⟩ (k_X6_in l dC dI cI cJ cZ H.size a2.toInt64 (0:Int64) (a1 - (1:Int32)).toInt64 N x3 hx3) (va_cwS 3 hts gX6_likely_X6_in rfl rfl rfl hd_X6_in ⟨Nat.le_of_ble_eq_true rfl, Nat.le_of_ble_eq_true rfl⟩) ⟨blind_pc, pre_pc hPc hK hDc⟩ rfl rfl hl.1 rfl (lv_room (Nat.le_of_ble_eq_true rfl)) dX6_likely_19 ⟨Nat.zero_le _, Nat.zero_le _⟩) hS (fun q _ h => hFc q h) hFc (fun r u t H1 locs eth hvm hw hB hz1 hk1 hS => ?_)
    obtain ⟨hP1, hK1, hD1⟩ := hB
    rw [eth] at hP1
    subst hw
    obtain ⟨hP, hD⟩ := va_join (wr := [(ht, .inr (5, [.int vt_clerks, .ref ht_drops, .ref ht_tires, .ref ht_now, .ref ht_told, .ref ht_text, .int vt_length, .ref ht_pages, .int vt_acts, .int vt_next, .ref ht_row, .int vt_found, .ref ht_alike, .ref ht_table, .ref ht_keys, .ref ht_own, .long vt_seed, .ref ht_isKept, .ref ht_kept])), (ht_drops, .inl (cI, 4, .inl vt_drops)), (ht_tires, .inl (cI, 4, .inl vt_tires)), (ht_now, .inl (cI, 13, .inl vt_now)), (ht_told, .inl (cI, 4, .inl vt_told)), (ht_pages, .inl (cI, 4, .inl vt_pages))]) (w1 := []) hP hD [] [0, 1, 2, 3, 4, 5] rfl rfl (by decide) (by decide) hk1 hFc hP1 hD1
    clear hP1 hK1 hD1 hPc hDc hFc hk1 hz1 hvm eth
    generalize H1 = H at hP hS ⊢
    have hP : va_P (dC, dI) vwCl [(ht, .inr (5, [.int vt_clerks, .ref ht_drops, .ref ht_tires, .ref ht_now, .ref ht_told, .ref ht_text, .int vt_length, .ref ht_pages, .int vt_acts, .int vt_next, .ref ht_row, .int vt_found, .ref ht_alike, .ref ht_table, .ref ht_keys, .ref ht_own, .long vt_seed, .ref ht_isKept, .ref ht_kept])), (ht_drops, .inl (cI, 4, .inl vt_drops)), (ht_tires, .inl (cI, 4, .inl vt_tires)), (ht_now, .inl (cI, 13, .inl vt_now)), (ht_told, .inl (cI, 4, .inl vt_told)), (ht_pages, .inl (cI, 4, .inl vt_pages))] H := hP
    have hD : va_D A [(ht, .inr (5, [.int vt_clerks, .ref ht_drops, .ref ht_tires, .ref ht_now, .ref ht_told, .ref ht_text, .int vt_length, .ref ht_pages, .int vt_acts, .int vt_next, .ref ht_row, .int vt_found, .ref ht_alike, .ref ht_table, .ref ht_keys, .ref ht_own, .long vt_seed, .ref ht_isKept, .ref ht_kept])), (ht_drops, .inl (cI, 4, .inl vt_drops)), (ht_tires, .inl (cI, 4, .inl vt_tires)), (ht_now, .inl (cI, 13, .inl vt_now)), (ht_told, .inl (cI, 4, .inl vt_told)), (ht_pages, .inl (cI, 4, .inl vt_pages))] := hD
    refine lv_if_eq (tgt := 37) hx hb dX6_likely_22 (by decide) (fun c4 => ?_) (fun c4 => ?_)
    · replace hf := dg_t c4 hf
      refine lv_bipush (v := -2) hx hb dX6_likely_37 (by decide) ?_
      have he := Option.some.inj hf
      have hP9 := hP
      have hD9 := hD
      exact W.iret (v := (-2:Int32)) hx hb hr (fun t eth hW => ⟨⟨(-2:Int32), vt_pages, rfl, ⟨(congrArg Prod.fst he).symm, (congrArg Prod.snd he).symm⟩, by rw [eth]; exact hP9, va_K.moved hW.alike hK, hD9⟩, hS.F eth⟩) hS.2.2 dX6_likely_39
    · replace hf := dg_f c4 hf
      refine lv_iload_n hx hb dX6_likely_25 rfl (lv_at hl 3 rfl) ?_
      refine lv_i2l hx hb dX6_likely_26 rfl ?_
      refine lv_lconst (v := 0) hx hb dX6_likely_27 (by decide) ?_
      refine lv_ldc2 (v := 3) hx hb hown hw1 dX6_likely_28 ?_
      obtain ⟨x5, hx5, hf⟩ := dg_bind hf
      have hPc : va_P (dC, dI) vwCl [] H := hP.sub [] rfl
      have hDc : va_D A [] := hD.sub [] (by decide) rfl
      have hFc := va_free (wc := []) hD hS hA [] rfl
      refine va_calli (va_runS (As := [.long a3.toInt64, .long (0:Int64), .long (3:Int64)]) (rest := []) ⟨hx, hb, hml, hown, hts⟩ (k_X6_in l dC dI cI cJ cZ H.size a3.toInt64 (0:Int64) (3:Int64) N x5 hx5) (va_cwS 3 hts gX6_likely_X6_in rfl rfl rfl hd_X6_in ⟨Nat.le_of_ble_eq_true rfl, Nat.le_of_ble_eq_true rfl⟩) ⟨blind_pc, pre_pc hPc hK hDc⟩ rfl rfl hl.1 rfl (lv_room (Nat.le_of_ble_eq_true rfl)) dX6_likely_31 ⟨Nat.zero_le _, Nat.zero_le _⟩) hS (fun q _ h => hFc q h) hFc (fun r u t H1 locs eth hvm hw hB hz1 hk1 hS => ?_)
      obtain ⟨hP1, hK1, hD1⟩ := hB
      rw [eth] at hP1
      subst hw
      obtain ⟨hP, hD⟩ := va_join (wr := [(ht, .inr (5, [.int vt_clerks, .ref ht_drops, .ref ht_tires, .ref ht_now, .ref ht_told, .ref ht_text, .int vt_length, .ref ht_pages, .int vt_acts, .int vt_next, .ref ht_row, .int vt_found, .ref ht_alike, .ref ht_table, .ref ht_keys, .ref ht_own, .long vt_seed, .ref ht_isKept, .ref ht_kept])), (ht_drops, .inl (cI, 4, .inl vt_drops)), (ht_tires, .inl (cI, 4, .inl vt_tires)), (ht_now, .inl (cI, 13, .inl vt_now)), (ht_told, .inl (cI, 4, .inl vt_told)), (ht_pages, .inl (cI, 4, .inl vt_pages))]) (w1 := []) hP hD [] [0, 1, 2, 3, 4, 5] rfl rfl (by decide) (by decide) hk1 hFc hP1 hD1
      clear hP1 hK1 hD1 hPc hDc hFc hk1 hz1 hvm eth
      generalize H1 = H at hP hS ⊢
      have hP : va_P (dC, dI) vwCl [(ht, .inr (5, [.int vt_clerks, .ref ht_drops, .ref ht_tires, .ref ht_now, .ref ht_told, .ref ht_text, .int vt_length, .ref ht_pages, .int vt_acts, .int vt_next, .ref ht_row, .int vt_found, .ref ht_alike, .ref ht_table, .ref ht_keys, .ref ht_own, .long vt_seed, .ref ht_isKept, .ref ht_kept])), (ht_drops, .inl (cI, 4, .inl vt_drops)), (ht_tires, .inl (cI, 4, .inl vt_tires)), (ht_now, .inl (cI, 13, .inl vt_now)), (ht_told, .inl (cI, 4, .inl vt_told)), (ht_pages, .inl (cI, 4, .inl vt_pages))] H := hP
      have hD : va_D A [(ht, .inr (5, [.int vt_clerks, .ref ht_drops, .ref ht_tires, .ref ht_now, .ref ht_told, .ref ht_text, .int vt_length, .ref ht_pages, .int vt_acts, .int vt_next, .ref ht_row, .int vt_found, .ref ht_alike, .ref ht_table, .ref ht_keys, .ref ht_own, .long vt_seed, .ref ht_isKept, .ref ht_kept])), (ht_drops, .inl (cI, 4, .inl vt_drops)), (ht_tires, .inl (cI, 4, .inl vt_tires)), (ht_now, .inl (cI, 13, .inl vt_now)), (ht_told, .inl (cI, 4, .inl vt_told)), (ht_pages, .inl (cI, 4, .inl vt_pages))] := hD
      refine lv_if_ne (tgt := 40) hx hb dX6_likely_34 (by decide) (fun c6 => ?_) (fun c6 => ?_)
      · replace hf := dg_f c6 hf
        refine lv_aload_n hx hb dX6_likely_40 rfl (lv_at hl 0 rfl) ?_
        refine lv_iload_n hx hb dX6_likely_41 rfl (lv_at hl 1 rfl) ?_
        obtain ⟨x7, hx7, hf⟩ := dg_bind hf
        have hPc : va_P (dC, dI) vwCl [(ht, .inr (5, [.int vt_clerks, .ref ht_drops, .ref ht_tires, .ref ht_now, .ref ht_told, .ref ht_text, .int vt_length, .ref ht_pages, .int vt_acts, .int vt_next, .ref ht_row, .int vt_found, .ref ht_alike, .ref ht_table, .ref ht_keys, .ref ht_own, .long vt_seed, .ref ht_isKept, .ref ht_kept])), (ht_drops, .inl (cI, 4, .inl vt_drops)), (ht_tires, .inl (cI, 4, .inl vt_tires)), (ht_now, .inl (cI, 13, .inl vt_now)), (ht_told, .inl (cI, 4, .inl vt_told)), (ht_pages, .inl (cI, 4, .inl vt_pages))] H := hP.sub [0, 1, 2, 3, 4, 5] rfl
        have hDc : va_D A [(ht, .inr (5, [.int vt_clerks, .ref ht_drops, .ref ht_tires, .ref ht_now, .ref ht_told, .ref ht_text, .int vt_length, .ref ht_pages, .int vt_acts, .int vt_next, .ref ht_row, .int vt_found, .ref ht_alike, .ref ht_table, .ref ht_keys, .ref ht_own, .long vt_seed, .ref ht_isKept, .ref ht_kept])), (ht_drops, .inl (cI, 4, .inl vt_drops)), (ht_tires, .inl (cI, 4, .inl vt_tires)), (ht_now, .inl (cI, 13, .inl vt_now)), (ht_told, .inl (cI, 4, .inl vt_told)), (ht_pages, .inl (cI, 4, .inl vt_pages))] := hD.sub [0, 1, 2, 3, 4, 5] (by decide) rfl
        have hFc := va_free (wc := [(ht, .inr (5, [.int vt_clerks, .ref ht_drops, .ref ht_tires, .ref ht_now, .ref ht_told, .ref ht_text, .int vt_length, .ref ht_pages, .int vt_acts, .int vt_next, .ref ht_row, .int vt_found, .ref ht_alike, .ref ht_table, .ref ht_keys, .ref ht_own, .long vt_seed, .ref ht_isKept, .ref ht_kept])), (ht_drops, .inl (cI, 4, .inl vt_drops)), (ht_tires, .inl (cI, 4, .inl vt_tires)), (ht_now, .inl (cI, 13, .inl vt_now)), (ht_told, .inl (cI, 4, .inl vt_told)), (ht_pages, .inl (cI, 4, .inl vt_pages))]) hD hS hA [0, 1, 2, 3, 4, 5] rfl
        refine va_calli (va_runV (As := [.int a1]) (rest := []) ⟨hx, hb, hml, hown, hts⟩ (k_X6_fits l dC dI cI cJ cZ H.size ht ht_drops ht_tires ht_now ht_told ht_text ht_pages ht_row ht_alike ht_table ht_keys ht_own ht_isKept ht_kept a1 vt_clerks vt_length vt_acts vt_next vt_found vt_seed vt_drops vt_tires vt_now vt_told vt_pages N x7 hx7) (cwV 1 hts gX6_likely_X6_fits rfl rfl rfl hd_X6_fits ⟨Nat.le_of_ble_eq_true rfl, Nat.le_of_ble_eq_true rfl⟩) ⟨blind_pc, va_recv hK hPc (ci := 5) (q0 := 0) rfl rfl, pre_pc hPc hK hDc⟩ rfl rfl hl.1 rfl (lv_room (Nat.le_of_ble_eq_true rfl)) dX6_likely_42 ⟨Nat.zero_le _, Nat.zero_le _⟩) hS (fun q _ h => hFc q h) hFc (fun r u t H1 locs eth hvm hw hB hz1 hk1 hS => ?_)
        obtain ⟨hP1, hK1, hD1⟩ := hB
        rw [eth] at hP1
        obtain ⟨hw, hw2⟩ := hw
        subst hw; subst hw2
        obtain ⟨hP, hD⟩ := va_join (wr := []) (w1 := [(ht, .inr (5, [.int vt_clerks, .ref ht_drops, .ref ht_tires, .ref ht_now, .ref ht_told, .ref ht_text, .int vt_length, .ref ht_pages, .int vt_acts, .int vt_next, .ref ht_row, .int vt_found, .ref ht_alike, .ref ht_table, .ref ht_keys, .ref ht_own, .long vt_seed, .ref ht_isKept, .ref ht_kept])), (ht_drops, .inl (cI, 4, .inl vt_drops)), (ht_tires, .inl (cI, 4, .inl vt_tires)), (ht_now, .inl (cI, 13, .inl vt_now)), (ht_told, .inl (cI, 4, .inl vt_told)), (ht_pages, .inl (cI, 4, .inl x7.2))]) hP hD [0, 1, 2, 3, 4, 5] [] rfl rfl (by decide) (by decide) hk1 hFc hP1 hD1
        clear hP1 hK1 hD1 hPc hDc hFc hk1 hz1 hvm eth
        generalize H1 = H at hP hS ⊢
        have hP : va_P (dC, dI) vwCl [(ht, .inr (5, [.int vt_clerks, .ref ht_drops, .ref ht_tires, .ref ht_now, .ref ht_told, .ref ht_text, .int vt_length, .ref ht_pages, .int vt_acts, .int vt_next, .ref ht_row, .int vt_found, .ref ht_alike, .ref ht_table, .ref ht_keys, .ref ht_own, .long vt_seed, .ref ht_isKept, .ref ht_kept])), (ht_drops, .inl (cI, 4, .inl vt_drops)), (ht_tires, .inl (cI, 4, .inl vt_tires)), (ht_now, .inl (cI, 13, .inl vt_now)), (ht_told, .inl (cI, 4, .inl vt_told)), (ht_pages, .inl (cI, 4, .inl x7.2))] H := hP
        have hD : va_D A [(ht, .inr (5, [.int vt_clerks, .ref ht_drops, .ref ht_tires, .ref ht_now, .ref ht_told, .ref ht_text, .int vt_length, .ref ht_pages, .int vt_acts, .int vt_next, .ref ht_row, .int vt_found, .ref ht_alike, .ref ht_table, .ref ht_keys, .ref ht_own, .long vt_seed, .ref ht_isKept, .ref ht_kept])), (ht_drops, .inl (cI, 4, .inl vt_drops)), (ht_tires, .inl (cI, 4, .inl vt_tires)), (ht_now, .inl (cI, 13, .inl vt_now)), (ht_told, .inl (cI, 4, .inl vt_told)), (ht_pages, .inl (cI, 4, .inl x7.2))] := hD
        refine lv_istore (lv' := [(5, .int x7.1), (0, .ref ht), (1, .int a1), (2, .int a2), (3, .int a3), (4, .int a4)]) hx hb dX6_likely_45 hl (by decide) rfl (fun ls hl => ?_)
        refine lv_iload hx hb dX6_likely_47 (lv_at hl 0 rfl) ?_
        refine lv_if_ne (tgt := 55) hx hb dX6_likely_49 (by decide) (fun c8 => ?_) (fun c8 => ?_)
        · replace hf := dg_f c8 hf
          refine lv_aload_n hx hb dX6_likely_55 rfl (lv_at hl 1 rfl) ?_
          refine lv_iload_n hx hb dX6_likely_56 rfl (lv_at hl 2 rfl) ?_
          refine lv_iload_n hx hb dX6_likely_57 rfl (lv_at hl 3 rfl) ?_
          refine lv_iload_n hx hb dX6_likely_58 rfl (lv_at hl 4 rfl) ?_
          obtain ⟨x9, hx9, hf⟩ := dg_bind hf
          have hPc : va_P (dC, dI) vwCl [(ht, .inr (5, [.int vt_clerks, .ref ht_drops, .ref ht_tires, .ref ht_now, .ref ht_told, .ref ht_text, .int vt_length, .ref ht_pages, .int vt_acts, .int vt_next, .ref ht_row, .int vt_found, .ref ht_alike, .ref ht_table, .ref ht_keys, .ref ht_own, .long vt_seed, .ref ht_isKept, .ref ht_kept])), (ht_drops, .inl (cI, 4, .inl vt_drops)), (ht_tires, .inl (cI, 4, .inl vt_tires)), (ht_now, .inl (cI, 13, .inl vt_now)), (ht_told, .inl (cI, 4, .inl vt_told)), (ht_pages, .inl (cI, 4, .inl x7.2))] H := hP.sub [0, 1, 2, 3, 4, 5] rfl
          have hDc : va_D A [(ht, .inr (5, [.int vt_clerks, .ref ht_drops, .ref ht_tires, .ref ht_now, .ref ht_told, .ref ht_text, .int vt_length, .ref ht_pages, .int vt_acts, .int vt_next, .ref ht_row, .int vt_found, .ref ht_alike, .ref ht_table, .ref ht_keys, .ref ht_own, .long vt_seed, .ref ht_isKept, .ref ht_kept])), (ht_drops, .inl (cI, 4, .inl vt_drops)), (ht_tires, .inl (cI, 4, .inl vt_tires)), (ht_now, .inl (cI, 13, .inl vt_now)), (ht_told, .inl (cI, 4, .inl vt_told)), (ht_pages, .inl (cI, 4, .inl x7.2))] := hD.sub [0, 1, 2, 3, 4, 5] (by decide) rfl
          have hFc := va_free (wc := [(ht, .inr (5, [.int vt_clerks, .ref ht_drops, .ref ht_tires, .ref ht_now, .ref ht_told, .ref ht_text, .int vt_length, .ref ht_pages, .int vt_acts, .int vt_next, .ref ht_row, .int vt_found, .ref ht_alike, .ref ht_table, .ref ht_keys, .ref ht_own, .long vt_seed, .ref ht_isKept, .ref ht_kept])), (ht_drops, .inl (cI, 4, .inl vt_drops)), (ht_tires, .inl (cI, 4, .inl vt_tires)), (ht_now, .inl (cI, 13, .inl vt_now)), (ht_told, .inl (cI, 4, .inl vt_told)), (ht_pages, .inl (cI, 4, .inl x7.2))]) hD hS hA [0, 1, 2, 3, 4, 5] rfl
          refine va_calli (va_runV (As := [.int a1, .int a2, .int a3]) (rest := []) ⟨hx, hb, hml, hown, hts⟩ (k_X6_fitsWith l dC dI cI cJ cZ H.size ht ht_drops ht_tires ht_now ht_told ht_text ht_pages ht_row ht_alike ht_table ht_keys ht_own ht_isKept ht_kept a1 a2 a3 vt_clerks vt_length vt_acts vt_next vt_found vt_seed vt_drops vt_tires vt_now vt_told x7.2 N x9 hx9) (cwV 3 hts gX6_likely_X6_fitsWith rfl rfl rfl hd_X6_fitsWith ⟨Nat.le_of_ble_eq_true rfl, Nat.le_of_ble_eq_true rfl⟩) ⟨blind_pc, va_recv hK hPc (ci := 5) (q0 := 0) rfl rfl, pre_pc hPc hK hDc⟩ rfl rfl hl.1 rfl (lv_room (Nat.le_of_ble_eq_true rfl)) dX6_likely_59 ⟨Nat.zero_le _, Nat.zero_le _⟩) hS (fun q _ h => hFc q h) hFc (fun r u t H1 locs eth hvm hw hB hz1 hk1 hS => ?_)
          obtain ⟨hP1, hK1, hD1⟩ := hB
          rw [eth] at hP1
          obtain ⟨hw, hw2⟩ := hw
          subst hw; subst hw2
          obtain ⟨hP, hD⟩ := va_join (wr := []) (w1 := [(ht, .inr (5, [.int vt_clerks, .ref ht_drops, .ref ht_tires, .ref ht_now, .ref ht_told, .ref ht_text, .int vt_length, .ref ht_pages, .int vt_acts, .int vt_next, .ref ht_row, .int vt_found, .ref ht_alike, .ref ht_table, .ref ht_keys, .ref ht_own, .long vt_seed, .ref ht_isKept, .ref ht_kept])), (ht_drops, .inl (cI, 4, .inl vt_drops)), (ht_tires, .inl (cI, 4, .inl vt_tires)), (ht_now, .inl (cI, 13, .inl vt_now)), (ht_told, .inl (cI, 4, .inl vt_told)), (ht_pages, .inl (cI, 4, .inl x9.2))]) hP hD [0, 1, 2, 3, 4, 5] [] rfl rfl (by decide) (by decide) hk1 hFc hP1 hD1
          clear hP1 hK1 hD1 hPc hDc hFc hk1 hz1 hvm eth
          generalize H1 = H at hP hS ⊢
          have hP : va_P (dC, dI) vwCl [(ht, .inr (5, [.int vt_clerks, .ref ht_drops, .ref ht_tires, .ref ht_now, .ref ht_told, .ref ht_text, .int vt_length, .ref ht_pages, .int vt_acts, .int vt_next, .ref ht_row, .int vt_found, .ref ht_alike, .ref ht_table, .ref ht_keys, .ref ht_own, .long vt_seed, .ref ht_isKept, .ref ht_kept])), (ht_drops, .inl (cI, 4, .inl vt_drops)), (ht_tires, .inl (cI, 4, .inl vt_tires)), (ht_now, .inl (cI, 13, .inl vt_now)), (ht_told, .inl (cI, 4, .inl vt_told)), (ht_pages, .inl (cI, 4, .inl x9.2))] H := hP
          have hD : va_D A [(ht, .inr (5, [.int vt_clerks, .ref ht_drops, .ref ht_tires, .ref ht_now, .ref ht_told, .ref ht_text, .int vt_length, .ref ht_pages, .int vt_acts, .int vt_next, .ref ht_row, .int vt_found, .ref ht_alike, .ref ht_table, .ref ht_keys, .ref ht_own, .long vt_seed, .ref ht_isKept, .ref ht_kept])), (ht_drops, .inl (cI, 4, .inl vt_drops)), (ht_tires, .inl (cI, 4, .inl vt_tires)), (ht_now, .inl (cI, 13, .inl vt_now)), (ht_told, .inl (cI, 4, .inl vt_told)), (ht_pages, .inl (cI, 4, .inl x9.2))] := hD
          refine lv_istore (lv' := [(6, .int x9.1), (5, .int x7.1), (0, .ref ht), (1, .int a1), (2, .int a2), (3, .int a3), (4, .int a4)]) hx hb dX6_likely_62 hl (by decide) rfl (fun ls hl => ?_)
          refine lv_iload hx hb dX6_likely_64 (lv_at hl 0 rfl) ?_
          refine lv_iload hx hb dX6_likely_66 (lv_at hl 1 rfl) ?_
          obtain ⟨x10, hx10, hf⟩ := dg_bind hf
          have hPc : va_P (dC, dI) vwCl [] H := hP.sub [] rfl
          have hDc : va_D A [] := hD.sub [] (by decide) rfl
          have hFc := va_free (wc := []) hD hS hA [] rfl
          refine va_calli (va_runS (As := [.int x9.1, .int x7.1]) (rest := []) ⟨hx, hb, hml, hown, hts⟩ (k_X6_common l dC dI cI cJ cZ H.size x9.1 x7.1 N x10 hx10) (va_cwS 2 hts gX6_likely_X6_common rfl rfl rfl hd_X6_common ⟨Nat.le_of_ble_eq_true rfl, Nat.le_of_ble_eq_true rfl⟩) ⟨blind_pc, pre_pc hPc hK hDc⟩ rfl rfl hl.1 rfl (lv_room (Nat.le_of_ble_eq_true rfl)) dX6_likely_68 ⟨Nat.zero_le _, Nat.zero_le _⟩) hS (fun q _ h => hFc q h) hFc (fun r u t H1 locs eth hvm hw hB hz1 hk1 hS => ?_)
          obtain ⟨hP1, hK1, hD1⟩ := hB
          rw [eth] at hP1
          subst hw
          obtain ⟨hP, hD⟩ := va_join (wr := [(ht, .inr (5, [.int vt_clerks, .ref ht_drops, .ref ht_tires, .ref ht_now, .ref ht_told, .ref ht_text, .int vt_length, .ref ht_pages, .int vt_acts, .int vt_next, .ref ht_row, .int vt_found, .ref ht_alike, .ref ht_table, .ref ht_keys, .ref ht_own, .long vt_seed, .ref ht_isKept, .ref ht_kept])), (ht_drops, .inl (cI, 4, .inl vt_drops)), (ht_tires, .inl (cI, 4, .inl vt_tires)), (ht_now, .inl (cI, 13, .inl vt_now)), (ht_told, .inl (cI, 4, .inl vt_told)), (ht_pages, .inl (cI, 4, .inl x9.2))]) (w1 := []) hP hD [] [0, 1, 2, 3, 4, 5] rfl rfl (by decide) (by decide) hk1 hFc hP1 hD1
          clear hP1 hK1 hD1 hPc hDc hFc hk1 hz1 hvm eth
          generalize H1 = H at hP hS ⊢
          have hP : va_P (dC, dI) vwCl [(ht, .inr (5, [.int vt_clerks, .ref ht_drops, .ref ht_tires, .ref ht_now, .ref ht_told, .ref ht_text, .int vt_length, .ref ht_pages, .int vt_acts, .int vt_next, .ref ht_row, .int vt_found, .ref ht_alike, .ref ht_table, .ref ht_keys, .ref ht_own, .long vt_seed, .ref ht_isKept, .ref ht_kept])), (ht_drops, .inl (cI, 4, .inl vt_drops)), (ht_tires, .inl (cI, 4, .inl vt_tires)), (ht_now, .inl (cI, 13, .inl vt_now)), (ht_told, .inl (cI, 4, .inl vt_told)), (ht_pages, .inl (cI, 4, .inl x9.2))] H := hP
          have hD : va_D A [(ht, .inr (5, [.int vt_clerks, .ref ht_drops, .ref ht_tires, .ref ht_now, .ref ht_told, .ref ht_text, .int vt_length, .ref ht_pages, .int vt_acts, .int vt_next, .ref ht_row, .int vt_found, .ref ht_alike, .ref ht_table, .ref ht_keys, .ref ht_own, .long vt_seed, .ref ht_isKept, .ref ht_kept])), (ht_drops, .inl (cI, 4, .inl vt_drops)), (ht_tires, .inl (cI, 4, .inl vt_tires)), (ht_now, .inl (cI, 13, .inl vt_now)), (ht_told, .inl (cI, 4, .inl vt_told)), (ht_pages, .inl (cI, 4, .inl x9.2))] := hD
          refine lv_istore (lv' := [(7, .int x10), (6, .int x9.1), (5, .int x7.1), (0, .ref ht), (1, .int a1), (2, .int a2), (3, .int a3), (4, .int a4)]) hx hb dX6_likely_71 hl (by decide) rfl (fun ls hl => ?_)
          refine lv_iload hx hb dX6_likely_73 (lv_at hl 7 rfl) ?_
          refine lv_if_eq (tgt := 86) hx hb dX6_likely_75 (by decide) (fun c11 => ?_) (fun c11 => ?_)
          · replace hf := dg_t c11 hf
            refine lv_iload hx hb dX6_likely_86 (lv_at hl 2 rfl) ?_
            refine lv_iload hx hb dX6_likely_88 (lv_at hl 0 rfl) ?_
            obtain ⟨hnz12, hf⟩ := dg_nz hf
            refine lv_idiv hx hb dX6_likely_90 hnz12 ?_
            have he := Option.some.inj hf
            have hP9 := hP
            have hD9 := hD
            exact W.iret (v := (x7.1 / x10)) hx hb hr (fun t eth hW => ⟨⟨(x7.1 / x10), x9.2, rfl, ⟨(congrArg Prod.fst he).symm, (congrArg Prod.snd he).symm⟩, by rw [eth]; exact hP9, va_K.moved hW.alike hK, hD9⟩, hS.F eth⟩) hS.2.2 dX6_likely_91
          · replace hf := dg_f c11 hf
            refine lv_iload hx hb dX6_likely_78 (lv_at hl 1 rfl) ?_
            refine lv_iload hx hb dX6_likely_80 (lv_at hl 0 rfl) ?_
            obtain ⟨hnz13, hf⟩ := dg_nz hf
            refine lv_idiv hx hb dX6_likely_82 hnz13 ?_
            refine lv_goto (tgt := 91) hx hb dX6_likely_83 (by decide) ?_
            have he := Option.some.inj hf
            have hP9 := hP
            have hD9 := hD
            exact W.iret (v := (x9.1 / x10)) hx hb hr (fun t eth hW => ⟨⟨(x9.1 / x10), x9.2, rfl, ⟨(congrArg Prod.fst he).symm, (congrArg Prod.snd he).symm⟩, by rw [eth]; exact hP9, va_K.moved hW.alike hK, hD9⟩, hS.F eth⟩) hS.2.2 dX6_likely_91
        · replace hf := dg_t c8 hf
          refine lv_bipush (v := -3) hx hb dX6_likely_52 (by decide) ?_
          have he := Option.some.inj hf
          have hP9 := hP
          have hD9 := hD
          exact W.iret (v := (-3:Int32)) hx hb hr (fun t eth hW => ⟨⟨(-3:Int32), x7.2, rfl, ⟨(congrArg Prod.fst he).symm, (congrArg Prod.snd he).symm⟩, by rw [eth]; exact hP9, va_K.moved hW.alike hK, hD9⟩, hS.F eth⟩) hS.2.2 dX6_likely_54
      · replace hf := dg_t c6 hf
        refine lv_bipush (v := -2) hx hb dX6_likely_37 (by decide) ?_
        have he := Option.some.inj hf
        have hP9 := hP
        have hD9 := hD
        exact W.iret (v := (-2:Int32)) hx hb hr (fun t eth hW => ⟨⟨(-2:Int32), vt_pages, rfl, ⟨(congrArg Prod.fst he).symm, (congrArg Prod.snd he).symm⟩, by rw [eth]; exact hP9, va_K.moved hW.alike hK, hD9⟩, hS.F eth⟩) hS.2.2 dX6_likely_39
theorem hd_X6_mostAlike : yX6_mostAlike.cls = RX6 ∧ yX6_mostAlike.cls ≠ "java/lang/invoke/MethodHandle" ∧ yX6_mostAlike.cls ≠ "java/lang/invoke/VarHandle" ∧ (parseMethodDescriptor yX6_mostAlike.desc).map (fun d => d.parameters.length) = some 2 := by decide +kernel
abbrev rm_X6_mostAlike : Room := { frames := 5, cells := 0, slots := 0, locals := 116 }
abbrev q_X6_mostAlike (dC : Nat → ClassId) (dI : Nat → Nat → Nat) (cI cJ cZ : ClassId) (ht ht_drops ht_tires ht_now ht_told ht_text ht_pages ht_row ht_alike ht_table ht_keys ht_own ht_isKept ht_kept : Nat) (vt_clerks : Int32) (vt_length : Int32) (vt_acts : Int32) (vt_next : Int32) (vt_found : Int32) (vt_seed : Int64) (vt_drops : Nat → Int32) (vt_tires : Nat → Int32) (vt_now : Nat → Int32) (vt_told : Nat → Int32) (R : Int32 × (Nat → Int32) × (Nat → Int32)) (A : Nat → Prop) : Array Value → State → Outcome → State → Prop := va_Qi (fun (r : Int32) (u : (Nat → Int32) × (Nat → Int32)) => R.1 = r ∧ R.2 = u) (fun (u : (Nat → Int32) × (Nat → Int32)) (t : State) => va_P (dC, dI) vwCl [(ht, .inr (5, [.int vt_clerks, .ref ht_drops, .ref ht_tires, .ref ht_now, .ref ht_told, .ref ht_text, .int vt_length, .ref ht_pages, .int vt_acts, .int vt_next, .ref ht_row, .int vt_found, .ref ht_alike, .ref ht_table, .ref ht_keys, .ref ht_own, .long vt_seed, .ref ht_isKept, .ref ht_kept])), (ht_drops, .inl (cI, 4, .inl vt_drops)), (ht_tires, .inl (cI, 4, .inl vt_tires)), (ht_now, .inl (cI, 13, .inl vt_now)), (ht_told, .inl (cI, 4, .inl vt_told)), (ht_pages, .inl (cI, 4, .inl u.1)), (ht_alike, .inl (cI, 28672, .inl u.2))] t.heap ∧ va_K (dC, dI) vwCl [(cI, .int), (cJ, .long), (cZ, .boolean)] t ∧ va_D A [(ht, .inr (5, [.int vt_clerks, .ref ht_drops, .ref ht_tires, .ref ht_now, .ref ht_told, .ref ht_text, .int vt_length, .ref ht_pages, .int vt_acts, .int vt_next, .ref ht_row, .int vt_found, .ref ht_alike, .ref ht_table, .ref ht_keys, .ref ht_own, .long vt_seed, .ref ht_isKept, .ref ht_kept])), (ht_drops, .inl (cI, 4, .inl vt_drops)), (ht_tires, .inl (cI, 4, .inl vt_tires)), (ht_now, .inl (cI, 13, .inl vt_now)), (ht_told, .inl (cI, 4, .inl vt_told)), (ht_pages, .inl (cI, 4, .inl u.1)), (ht_alike, .inl (cI, 28672, .inl u.2))]) A
set_option maxHeartbeats 4000000 in
set_option maxRecDepth 100000 in
theorem k_X6_mostAlike (l : Launch) (dC : Nat → ClassId) (dI : Nat → Nat → Nat) (cI cJ cZ : ClassId) (sz : Nat) (ht ht_drops ht_tires ht_now ht_told ht_text ht_pages ht_row ht_alike ht_table ht_keys ht_own ht_isKept ht_kept : Nat) (a1 : Int32) (a2 : Int32) (vt_clerks : Int32) (vt_length : Int32) (vt_acts : Int32) (vt_next : Int32) (vt_found : Int32) (vt_seed : Int64) (vt_drops : Nat → Int32) (vt_tires : Nat → Int32) (vt_now : Nat → Int32) (vt_told : Nat → Int32) (vt_pages : Nat → Int32) (vt_alike : Nat → Int32) (N : Nat) (R : Int32 × (Nat → Int32) × (Nat → Int32)) (hf : f_X6_mostAlike N a1 a2 vt_clerks vt_drops vt_tires vt_now vt_told vt_pages vt_alike = some R) : Met l yX6_mostAlike wsX6_mostAlike (rm_X6_mostAlike) (va_Pc [.ref ht, .int a1, .int a2] (fun U => U.heap.size = sz ∧ va_P (dC, dI) vwCl [(ht, .inr (5, [.int vt_clerks, .ref ht_drops, .ref ht_tires, .ref ht_now, .ref ht_told, .ref ht_text, .int vt_length, .ref ht_pages, .int vt_acts, .int vt_next, .ref ht_row, .int vt_found, .ref ht_alike, .ref ht_table, .ref ht_keys, .ref ht_own, .long vt_seed, .ref ht_isKept, .ref ht_kept])), (ht_drops, .inl (cI, 4, .inl vt_drops)), (ht_tires, .inl (cI, 4, .inl vt_tires)), (ht_now, .inl (cI, 13, .inl vt_now)), (ht_told, .inl (cI, 4, .inl vt_told)), (ht_pages, .inl (cI, 4, .inl vt_pages)), (ht_alike, .inl (cI, 28672, .inl vt_alike))] U.heap ∧ va_K (dC, dI) vwCl [(cI, .int), (cJ, .long), (cZ, .boolean)] U ∧ va_D (fun _ => True) [(ht, .inr (5, [.int vt_clerks, .ref ht_drops, .ref ht_tires, .ref ht_now, .ref ht_told, .ref ht_text, .int vt_length, .ref ht_pages, .int vt_acts, .int vt_next, .ref ht_row, .int vt_found, .ref ht_alike, .ref ht_table, .ref ht_keys, .ref ht_own, .long vt_seed, .ref ht_isKept, .ref ht_kept])), (ht_drops, .inl (cI, 4, .inl vt_drops)), (ht_tires, .inl (cI, 4, .inl vt_tires)), (ht_now, .inl (cI, 13, .inl vt_now)), (ht_told, .inl (cI, 4, .inl vt_told)), (ht_pages, .inl (cI, 4, .inl vt_pages)), (ht_alike, .inl (cI, 28672, .inl vt_alike))])) (q_X6_mostAlike dC dI cI cJ cZ ht ht_drops ht_tires ht_now ht_told ht_text ht_pages ht_row ht_alike ht_table ht_keys ht_own ht_isKept ht_kept vt_clerks vt_length vt_acts vt_next vt_found vt_seed vt_drops vt_tires vt_now vt_told R (va_A [(ht, .inr (5, [.int vt_clerks, .ref ht_drops, .ref ht_tires, .ref ht_now, .ref ht_told, .ref ht_text, .int vt_length, .ref ht_pages, .int vt_acts, .int vt_next, .ref ht_row, .int vt_found, .ref ht_alike, .ref ht_table, .ref ht_keys, .ref ht_own, .long vt_seed, .ref ht_isKept, .ref ht_kept])), (ht_drops, .inl (cI, 4, .inl vt_drops)), (ht_tires, .inl (cI, 4, .inl vt_tires)), (ht_now, .inl (cI, 13, .inl vt_now)), (ht_told, .inl (cI, 4, .inl vt_told)), (ht_pages, .inl (cI, 4, .inl vt_pages)), (ht_alike, .inl (cI, 28672, .inl vt_alike))] sz)) 0 0 (va_A [(ht, .inr (5, [.int vt_clerks, .ref ht_drops, .ref ht_tires, .ref ht_now, .ref ht_told, .ref ht_text, .int vt_length, .ref ht_pages, .int vt_acts, .int vt_next, .ref ht_row, .int vt_found, .ref ht_alike, .ref ht_table, .ref ht_keys, .ref ht_own, .long vt_seed, .ref ht_isKept, .ref ht_kept])), (ht_drops, .inl (cI, 4, .inl vt_drops)), (ht_tires, .inl (cI, 4, .inl vt_tires)), (ht_now, .inl (cI, 13, .inl vt_now)), (ht_told, .inl (cI, 4, .inl vt_told)), (ht_pages, .inl (cI, 4, .inl vt_pages)), (ht_alike, .inl (cI, 28672, .inl vt_alike))] sz) := by
  refine Met.ofW (cc := cX6_mostAlike) (maxL := 5) (ret := (some .int)) (by decide) rfl ?_
  intro p e s m args below meth c s₁ B hml hv
  obtain ⟨rfl, hsz, hP, hK, hD0⟩ := hv
  have hx := B.exec
  have hb := B.bytes
  have hr := B.returns
  have hts := atoms_spec (ws := wsX6_mostAlike) B.pre
  have hown : s.vm.findClass RX6 = some m.cls := findClass_of_methodNamed B.named
  have hlocks := B.notSynchronized
  clear B
  subst hsz
  have hw0 := hts (.fieldLink RX6 31 "ShorthandCourtModel" "alike" "[I") (by decide +kernel)
  have hw1 := hts (.fieldLink RX6 25 "ShorthandCourtModel" "pages" "[I") (by decide +kernel)
  have hinX6 : ∀ w ∈ u_ws RX6 TX6 19, w ∈ wsX6_mostAlike := by decide +kernel
  have hD := hD0.self (sz := s.heap.size)
  clear hD0
  generalize hAe : va_A [(ht, .inr (5, [.int vt_clerks, .ref ht_drops, .ref ht_tires, .ref ht_now, .ref ht_told, .ref ht_text, .int vt_length, .ref ht_pages, .int vt_acts, .int vt_next, .ref ht_row, .int vt_found, .ref ht_alike, .ref ht_table, .ref ht_keys, .ref ht_own, .long vt_seed, .ref ht_isKept, .ref ht_kept])), (ht_drops, .inl (cI, 4, .inl vt_drops)), (ht_tires, .inl (cI, 4, .inl vt_tires)), (ht_now, .inl (cI, 13, .inl vt_now)), (ht_told, .inl (cI, 4, .inl vt_told)), (ht_pages, .inl (cI, 4, .inl vt_pages)), (ht_alike, .inl (cI, 28672, .inl vt_alike))] s.heap.size = A at hD ⊢
  have hA : ∀ q : Nat, s.heap.size ≤ q → A q := fun q h => by rw [← hAe]; exact Or.inr h
  clear hAe
  have hS : va_S A s.heap s.heap [] := va_S.rf
  have hl := lv_entry ([.ref ht, .int a1, .int a2]) (n := 5) (Nat.le_of_ble_eq_true rfl)
  rw [lg_entry_eq]
  generalize (lg_sl ([.ref ht, .int a1, .int a2]) ++ List.replicate (5 - (lg_sl ([.ref ht, .int a1, .int a2])).length) Slot.unset).toArray = ls at hl ⊢
  have hl : lv_has ls 5 [(0, .ref ht), (1, .int a1), (2, .int a2)] := hl
  unfold f_X6_mostAlike at hf
  refine lv_iconst (v := 0) hx hb dX6_mostAlike_0 (by decide) ?_
  refine lv_istore_n (lv' := [(3, .int (0:Int32)), (0, .ref ht), (1, .int a1), (2, .int a2)]) hx hb dX6_mostAlike_1 rfl hl (by decide) rfl (fun ls hl => ?_)
  have ex2 : ∀ (z3_2 : Int32) (zvt_alike_2 : (Nat → Int32)) (H : Heap) (locs : List Loc) (ls : Array Slot), va_P (dC, dI) vwCl [(ht, .inr (5, [.int vt_clerks, .ref ht_drops, .ref ht_tires, .ref ht_now, .ref ht_told, .ref ht_text, .int vt_length, .ref ht_pages, .int vt_acts, .int vt_next, .ref ht_row, .int vt_found, .ref ht_alike, .ref ht_table, .ref ht_keys, .ref ht_own, .long vt_seed, .ref ht_isKept, .ref ht_kept])), (ht_drops, .inl (cI, 4, .inl vt_drops)), (ht_tires, .inl (cI, 4, .inl vt_tires)), (ht_now, .inl (cI, 13, .inl vt_now)), (ht_told, .inl (cI, 4, .inl vt_told)), (ht_pages, .inl (cI, 4, .inl vt_pages)), (ht_alike, .inl (cI, 28672, .inl zvt_alike_2))] H → va_D A [(ht, .inr (5, [.int vt_clerks, .ref ht_drops, .ref ht_tires, .ref ht_now, .ref ht_told, .ref ht_text, .int vt_length, .ref ht_pages, .int vt_acts, .int vt_next, .ref ht_row, .int vt_found, .ref ht_alike, .ref ht_table, .ref ht_keys, .ref ht_own, .long vt_seed, .ref ht_isKept, .ref ht_kept])), (ht_drops, .inl (cI, 4, .inl vt_drops)), (ht_tires, .inl (cI, 4, .inl vt_tires)), (ht_now, .inl (cI, 13, .inl vt_now)), (ht_told, .inl (cI, 4, .inl vt_told)), (ht_pages, .inl (cI, 4, .inl vt_pages)), (ht_alike, .inl (cI, 28672, .inl zvt_alike_2))] → va_S A s.heap H locs → lv_has ls 5 [(3, .int z3_2), (0, .ref ht), (1, .int a1), (2, .int a2)] → (f_X6_mostAlike_27 N a1 a2 vt_clerks vt_drops vt_tires vt_now vt_told (fun z3_27 z4_27 zvt_pages_27 zvt_alike_27 => some (z3_27, (zvt_pages_27, zvt_alike_27))) N (0:Int32) (0:Int32) vt_pages zvt_alike_2) = some R → W p l e (rm_X6_mostAlike) s m ([.ref ht, .int a1, .int a2] : List Value).toArray below meth c H locs 0 0 (MQ below (q_X6_mostAlike dC dI cI cJ cZ ht ht_drops ht_tires ht_now ht_told ht_text ht_pages ht_row ht_alike ht_table ht_keys ht_own ht_isKept ht_kept vt_clerks vt_length vt_acts vt_next vt_found vt_seed vt_drops vt_tires vt_now vt_told R A) ([.ref ht, .int a1, .int a2] : List Value).toArray s 0 0 A) (F0 m 22 ls []) := by
    intro z3_2 zvt_alike_2 H locs ls hP hD hS hl hf
    refine lv_iconst (v := 0) hx hb dX6_mostAlike_22 (by decide) ?_
    refine lv_istore_n (lv' := [(3, .int (0:Int32)), (0, .ref ht), (1, .int a1), (2, .int a2)]) hx hb dX6_mostAlike_23 rfl hl (by decide) rfl (fun ls hl => ?_)
    refine lv_iconst (v := 0) hx hb dX6_mostAlike_24 (by decide) ?_
    refine lv_istore (lv' := [(4, .int (0:Int32)), (3, .int (0:Int32)), (0, .ref ht), (1, .int a1), (2, .int a2)]) hx hb dX6_mostAlike_25 hl (by decide) rfl (fun ls hl => ?_)
    have ex27 : ∀ (z3_27 : Int32) (z4_27 : Int32) (zvt_pages_27 : (Nat → Int32)) (zvt_alike_27 : (Nat → Int32)) (H : Heap) (locs : List Loc) (ls : Array Slot), va_P (dC, dI) vwCl [(ht, .inr (5, [.int vt_clerks, .ref ht_drops, .ref ht_tires, .ref ht_now, .ref ht_told, .ref ht_text, .int vt_length, .ref ht_pages, .int vt_acts, .int vt_next, .ref ht_row, .int vt_found, .ref ht_alike, .ref ht_table, .ref ht_keys, .ref ht_own, .long vt_seed, .ref ht_isKept, .ref ht_kept])), (ht_drops, .inl (cI, 4, .inl vt_drops)), (ht_tires, .inl (cI, 4, .inl vt_tires)), (ht_now, .inl (cI, 13, .inl vt_now)), (ht_told, .inl (cI, 4, .inl vt_told)), (ht_pages, .inl (cI, 4, .inl zvt_pages_27)), (ht_alike, .inl (cI, 28672, .inl zvt_alike_27))] H → va_D A [(ht, .inr (5, [.int vt_clerks, .ref ht_drops, .ref ht_tires, .ref ht_now, .ref ht_told, .ref ht_text, .int vt_length, .ref ht_pages, .int vt_acts, .int vt_next, .ref ht_row, .int vt_found, .ref ht_alike, .ref ht_table, .ref ht_keys, .ref ht_own, .long vt_seed, .ref ht_isKept, .ref ht_kept])), (ht_drops, .inl (cI, 4, .inl vt_drops)), (ht_tires, .inl (cI, 4, .inl vt_tires)), (ht_now, .inl (cI, 13, .inl vt_now)), (ht_told, .inl (cI, 4, .inl vt_told)), (ht_pages, .inl (cI, 4, .inl zvt_pages_27)), (ht_alike, .inl (cI, 28672, .inl zvt_alike_27))] → va_S A s.heap H locs → lv_has ls 5 [(4, .int z4_27), (3, .int z3_27), (0, .ref ht), (1, .int a1), (2, .int a2)] → (some (z3_27, (zvt_pages_27, zvt_alike_27))) = some R → W p l e (rm_X6_mostAlike) s m ([.ref ht, .int a1, .int a2] : List Value).toArray below meth c H locs 0 0 (MQ below (q_X6_mostAlike dC dI cI cJ cZ ht ht_drops ht_tires ht_now ht_told ht_text ht_pages ht_row ht_alike ht_table ht_keys ht_own ht_isKept ht_kept vt_clerks vt_length vt_acts vt_next vt_found vt_seed vt_drops vt_tires vt_now vt_told R A) ([.ref ht, .int a1, .int a2] : List Value).toArray s 0 0 A) (F0 m 103 ls []) := by
      intro z3_27 z4_27 zvt_pages_27 zvt_alike_27 H locs ls hP hD hS hl hf
      refine lv_iload_n hx hb dX6_mostAlike_103 rfl (lv_at hl 1 rfl) ?_
      have he := Option.some.inj hf
      have hP9 := hP
      have hD9 := hD
      exact W.iret (v := z3_27) hx hb hr (fun t eth hW => ⟨⟨z3_27, (zvt_pages_27, zvt_alike_27), rfl, ⟨(congrArg Prod.fst he).symm, (congrArg Prod.snd he).symm⟩, by rw [eth]; exact hP9, va_K.moved hW.alike hK, hD9⟩, hS.F eth⟩) hS.2.2 dX6_mostAlike_104
    have lp27 : ∀ (n27 : Nat) (y3_27 : Int32) (y4_27 : Int32) (yvt_pages_27 : (Nat → Int32)) (yvt_alike_27 : (Nat → Int32)) (H : Heap) (locs : List Loc) (ls : Array Slot), va_P (dC, dI) vwCl [(ht, .inr (5, [.int vt_clerks, .ref ht_drops, .ref ht_tires, .ref ht_now, .ref ht_told, .ref ht_text, .int vt_length, .ref ht_pages, .int vt_acts, .int vt_next, .ref ht_row, .int vt_found, .ref ht_alike, .ref ht_table, .ref ht_keys, .ref ht_own, .long vt_seed, .ref ht_isKept, .ref ht_kept])), (ht_drops, .inl (cI, 4, .inl vt_drops)), (ht_tires, .inl (cI, 4, .inl vt_tires)), (ht_now, .inl (cI, 13, .inl vt_now)), (ht_told, .inl (cI, 4, .inl vt_told)), (ht_pages, .inl (cI, 4, .inl yvt_pages_27)), (ht_alike, .inl (cI, 28672, .inl yvt_alike_27))] H → va_D A [(ht, .inr (5, [.int vt_clerks, .ref ht_drops, .ref ht_tires, .ref ht_now, .ref ht_told, .ref ht_text, .int vt_length, .ref ht_pages, .int vt_acts, .int vt_next, .ref ht_row, .int vt_found, .ref ht_alike, .ref ht_table, .ref ht_keys, .ref ht_own, .long vt_seed, .ref ht_isKept, .ref ht_kept])), (ht_drops, .inl (cI, 4, .inl vt_drops)), (ht_tires, .inl (cI, 4, .inl vt_tires)), (ht_now, .inl (cI, 13, .inl vt_now)), (ht_told, .inl (cI, 4, .inl vt_told)), (ht_pages, .inl (cI, 4, .inl yvt_pages_27)), (ht_alike, .inl (cI, 28672, .inl yvt_alike_27))] → va_S A s.heap H locs → lv_has ls 5 [(4, .int y4_27), (3, .int y3_27), (0, .ref ht), (1, .int a1), (2, .int a2)] → f_X6_mostAlike_27 N a1 a2 vt_clerks vt_drops vt_tires vt_now vt_told (fun z3_27 z4_27 zvt_pages_27 zvt_alike_27 => some (z3_27, (zvt_pages_27, zvt_alike_27))) n27 y3_27 y4_27 yvt_pages_27 yvt_alike_27 = some R → W p l e (rm_X6_mostAlike) s m ([.ref ht, .int a1, .int a2] : List Value).toArray below meth c H locs 0 0 (MQ below (q_X6_mostAlike dC dI cI cJ cZ ht ht_drops ht_tires ht_now ht_told ht_text ht_pages ht_row ht_alike ht_table ht_keys ht_own ht_isKept ht_kept vt_clerks vt_length vt_acts vt_next vt_found vt_seed vt_drops vt_tires vt_now vt_told R A) ([.ref ht, .int a1, .int a2] : List Value).toArray s 0 0 A) (F0 m 27 ls []) := by
      intro n27
      induction n27 with
      | zero => intro y3_27 y4_27 yvt_pages_27 yvt_alike_27 H locs ls hP hD hS hl hf; rw [f_X6_mostAlike_27] at hf; cases hf
      | succ n27 ih27 =>
        intro y3_27 y4_27 yvt_pages_27 yvt_alike_27 H locs ls hP hD hS hl hf
        rw [f_X6_mostAlike_27] at hf
        refine lv_iload hx hb dX6_mostAlike_27 (lv_at hl 0 rfl) ?_
        refine lv_iload_n hx hb dX6_mostAlike_29 rfl (lv_at hl 4 rfl) ?_
        obtain ⟨x1, hx1, hf⟩ := dg_bind hf
        have hPc : va_P (dC, dI) vwCl [] H := hP.sub [] rfl
        have hDc : va_D A [] := hD.sub [] (by decide) rfl
        have hFc := va_free (wc := []) hD hS hA [] rfl
        refine va_calli (va_runS (As := [.int a2]) (rest := [.int y4_27]) ⟨hx, hb, hml, hown, hts⟩ (k_X6_fourTo l dC dI cI cJ cZ H.size a2 N x1 hx1) (va_cwS 1 hts gX6_mostAlike_X6_fourTo rfl rfl rfl hd_X6_fourTo ⟨Nat.le_of_ble_eq_true rfl, Nat.le_of_ble_eq_true rfl⟩) ⟨blind_pc, pre_pc hPc hK hDc⟩ rfl rfl hl.1 rfl (lv_room (Nat.le_of_ble_eq_true rfl)) dX6_mostAlike_30 ⟨Nat.zero_le _, Nat.zero_le _⟩) hS (fun q _ h => hFc q h) hFc (fun r u t H1 locs eth hvm hw hB hz1 hk1 hS => ?_)
        obtain ⟨hP1, hK1, hD1⟩ := hB
        rw [eth] at hP1
        subst hw
        obtain ⟨hP, hD⟩ := va_join (wr := [(ht, .inr (5, [.int vt_clerks, .ref ht_drops, .ref ht_tires, .ref ht_now, .ref ht_told, .ref ht_text, .int vt_length, .ref ht_pages, .int vt_acts, .int vt_next, .ref ht_row, .int vt_found, .ref ht_alike, .ref ht_table, .ref ht_keys, .ref ht_own, .long vt_seed, .ref ht_isKept, .ref ht_kept])), (ht_drops, .inl (cI, 4, .inl vt_drops)), (ht_tires, .inl (cI, 4, .inl vt_tires)), (ht_now, .inl (cI, 13, .inl vt_now)), (ht_told, .inl (cI, 4, .inl vt_told)), (ht_pages, .inl (cI, 4, .inl yvt_pages_27)), (ht_alike, .inl (cI, 28672, .inl yvt_alike_27))]) (w1 := []) hP hD [] [0, 1, 2, 3, 4, 5, 6] rfl rfl (by decide) (by decide) hk1 hFc hP1 hD1
        clear hP1 hK1 hD1 hPc hDc hFc hk1 hz1 hvm eth
        generalize H1 = H at hP hS ⊢
        have hP : va_P (dC, dI) vwCl [(ht, .inr (5, [.int vt_clerks, .ref ht_drops, .ref ht_tires, .ref ht_now, .ref ht_told, .ref ht_text, .int vt_length, .ref ht_pages, .int vt_acts, .int vt_next, .ref ht_row, .int vt_found, .ref ht_alike, .ref ht_table, .ref ht_keys, .ref ht_own, .long vt_seed, .ref ht_isKept, .ref ht_kept])), (ht_drops, .inl (cI, 4, .inl vt_drops)), (ht_tires, .inl (cI, 4, .inl vt_tires)), (ht_now, .inl (cI, 13, .inl vt_now)), (ht_told, .inl (cI, 4, .inl vt_told)), (ht_pages, .inl (cI, 4, .inl yvt_pages_27)), (ht_alike, .inl (cI, 28672, .inl yvt_alike_27))] H := hP
        have hD : va_D A [(ht, .inr (5, [.int vt_clerks, .ref ht_drops, .ref ht_tires, .ref ht_now, .ref ht_told, .ref ht_text, .int vt_length, .ref ht_pages, .int vt_acts, .int vt_next, .ref ht_row, .int vt_found, .ref ht_alike, .ref ht_table, .ref ht_keys, .ref ht_own, .long vt_seed, .ref ht_isKept, .ref ht_kept])), (ht_drops, .inl (cI, 4, .inl vt_drops)), (ht_tires, .inl (cI, 4, .inl vt_tires)), (ht_now, .inl (cI, 13, .inl vt_now)), (ht_told, .inl (cI, 4, .inl vt_told)), (ht_pages, .inl (cI, 4, .inl yvt_pages_27)), (ht_alike, .inl (cI, 28672, .inl yvt_alike_27))] := hD
        refine lv_icmp_ge (tgt := 103) hx hb dX6_mostAlike_33 (by decide) (fun c2 => ?_) (fun c2 => ?_)
        · replace hf := dg_t c2 hf
          exact ex27 y3_27 y4_27 yvt_pages_27 yvt_alike_27 _ _ _ hP hD hS (lv_sub hl [0, 1, 2, 3, 4] rfl) hf
        · replace hf := dg_f c2 hf
          refine lv_aload_n hx hb dX6_mostAlike_36 rfl (lv_at hl 2 rfl) ?_
          refine lv_iload_n hx hb dX6_mostAlike_37 rfl (lv_at hl 4 rfl) ?_
          refine lv_sipush (v := 4096) hx hb dX6_mostAlike_38 (by decide) ?_
          refine lv_imul hx hb dX6_mostAlike_41 ?_
          refine lv_iload hx hb dX6_mostAlike_42 (lv_at hl 0 rfl) ?_
          refine lv_iadd hx hb dX6_mostAlike_44 ?_
          obtain ⟨x3, hx3, hf⟩ := dg_bind hf
          have hPc : va_P (dC, dI) vwCl [(ht, .inr (5, [.int vt_clerks, .ref ht_drops, .ref ht_tires, .ref ht_now, .ref ht_told, .ref ht_text, .int vt_length, .ref ht_pages, .int vt_acts, .int vt_next, .ref ht_row, .int vt_found, .ref ht_alike, .ref ht_table, .ref ht_keys, .ref ht_own, .long vt_seed, .ref ht_isKept, .ref ht_kept])), (ht_drops, .inl (cI, 4, .inl vt_drops)), (ht_tires, .inl (cI, 4, .inl vt_tires)), (ht_now, .inl (cI, 13, .inl vt_now)), (ht_told, .inl (cI, 4, .inl vt_told)), (ht_pages, .inl (cI, 4, .inl yvt_pages_27))] H := hP.sub [0, 1, 2, 3, 4, 5] rfl
          have hDc : va_D A [(ht, .inr (5, [.int vt_clerks, .ref ht_drops, .ref ht_tires, .ref ht_now, .ref ht_told, .ref ht_text, .int vt_length, .ref ht_pages, .int vt_acts, .int vt_next, .ref ht_row, .int vt_found, .ref ht_alike, .ref ht_table, .ref ht_keys, .ref ht_own, .long vt_seed, .ref ht_isKept, .ref ht_kept])), (ht_drops, .inl (cI, 4, .inl vt_drops)), (ht_tires, .inl (cI, 4, .inl vt_tires)), (ht_now, .inl (cI, 13, .inl vt_now)), (ht_told, .inl (cI, 4, .inl vt_told)), (ht_pages, .inl (cI, 4, .inl yvt_pages_27))] := hD.sub [0, 1, 2, 3, 4, 5] (by decide) rfl
          have hFc := va_free (wc := [(ht, .inr (5, [.int vt_clerks, .ref ht_drops, .ref ht_tires, .ref ht_now, .ref ht_told, .ref ht_text, .int vt_length, .ref ht_pages, .int vt_acts, .int vt_next, .ref ht_row, .int vt_found, .ref ht_alike, .ref ht_table, .ref ht_keys, .ref ht_own, .long vt_seed, .ref ht_isKept, .ref ht_kept])), (ht_drops, .inl (cI, 4, .inl vt_drops)), (ht_tires, .inl (cI, 4, .inl vt_tires)), (ht_now, .inl (cI, 13, .inl vt_now)), (ht_told, .inl (cI, 4, .inl vt_told)), (ht_pages, .inl (cI, 4, .inl yvt_pages_27))]) hD hS hA [0, 1, 2, 3, 4, 5] rfl
          refine va_calli (va_runV (As := [.int ((a2 * (4096:Int32)) + y4_27)]) (rest := []) ⟨hx, hb, hml, hown, hts⟩ (k_X6_isFit l dC dI cI cJ cZ H.size ht ht_drops ht_tires ht_now ht_told ht_text ht_pages ht_row ht_alike ht_table ht_keys ht_own ht_isKept ht_kept ((a2 * (4096:Int32)) + y4_27) vt_clerks vt_length vt_acts vt_next vt_found vt_seed vt_drops vt_tires vt_now vt_told yvt_pages_27 N x3 hx3) (cwV 1 hts gX6_mostAlike_X6_isFit rfl rfl rfl hd_X6_isFit ⟨Nat.le_of_ble_eq_true rfl, Nat.le_of_ble_eq_true rfl⟩) ⟨blind_pc, va_recv hK hPc (ci := 5) (q0 := 0) rfl rfl, pre_pc hPc hK hDc⟩ rfl rfl hl.1 rfl (lv_room (Nat.le_of_ble_eq_true rfl)) dX6_mostAlike_45 ⟨Nat.zero_le _, Nat.zero_le _⟩) hS (fun q _ h => hFc q h) hFc (fun r u t H1 locs eth hvm hw hB hz1 hk1 hS => ?_)
          obtain ⟨hP1, hK1, hD1⟩ := hB
          rw [eth] at hP1
          obtain ⟨hw, hw2⟩ := hw
          subst hw; subst hw2
          obtain ⟨hP, hD⟩ := va_join (wr := [(ht_alike, .inl (cI, 28672, .inl yvt_alike_27))]) (w1 := [(ht, .inr (5, [.int vt_clerks, .ref ht_drops, .ref ht_tires, .ref ht_now, .ref ht_told, .ref ht_text, .int vt_length, .ref ht_pages, .int vt_acts, .int vt_next, .ref ht_row, .int vt_found, .ref ht_alike, .ref ht_table, .ref ht_keys, .ref ht_own, .long vt_seed, .ref ht_isKept, .ref ht_kept])), (ht_drops, .inl (cI, 4, .inl vt_drops)), (ht_tires, .inl (cI, 4, .inl vt_tires)), (ht_now, .inl (cI, 13, .inl vt_now)), (ht_told, .inl (cI, 4, .inl vt_told)), (ht_pages, .inl (cI, 4, .inl x3.2))]) hP hD [0, 1, 2, 3, 4, 5] [6] rfl rfl (by decide) (by decide) hk1 hFc hP1 hD1
          clear hP1 hK1 hD1 hPc hDc hFc hk1 hz1 hvm eth
          generalize H1 = H at hP hS ⊢
          have hP : va_P (dC, dI) vwCl [(ht_alike, .inl (cI, 28672, .inl yvt_alike_27)), (ht, .inr (5, [.int vt_clerks, .ref ht_drops, .ref ht_tires, .ref ht_now, .ref ht_told, .ref ht_text, .int vt_length, .ref ht_pages, .int vt_acts, .int vt_next, .ref ht_row, .int vt_found, .ref ht_alike, .ref ht_table, .ref ht_keys, .ref ht_own, .long vt_seed, .ref ht_isKept, .ref ht_kept])), (ht_drops, .inl (cI, 4, .inl vt_drops)), (ht_tires, .inl (cI, 4, .inl vt_tires)), (ht_now, .inl (cI, 13, .inl vt_now)), (ht_told, .inl (cI, 4, .inl vt_told)), (ht_pages, .inl (cI, 4, .inl x3.2))] H := hP
          have hD : va_D A [(ht_alike, .inl (cI, 28672, .inl yvt_alike_27)), (ht, .inr (5, [.int vt_clerks, .ref ht_drops, .ref ht_tires, .ref ht_now, .ref ht_told, .ref ht_text, .int vt_length, .ref ht_pages, .int vt_acts, .int vt_next, .ref ht_row, .int vt_found, .ref ht_alike, .ref ht_table, .ref ht_keys, .ref ht_own, .long vt_seed, .ref ht_isKept, .ref ht_kept])), (ht_drops, .inl (cI, 4, .inl vt_drops)), (ht_tires, .inl (cI, 4, .inl vt_tires)), (ht_now, .inl (cI, 13, .inl vt_now)), (ht_told, .inl (cI, 4, .inl vt_told)), (ht_pages, .inl (cI, 4, .inl x3.2))] := hD
          refine lv_if_eq (tgt := 97) hx hb dX6_mostAlike_48 (by decide) (fun c4 => ?_) (fun c4 => ?_)
          · replace hf := dg_t c4 hf
            refine lv_iinc (v := (y4_27 + (1:Int32))) (lv' := [(4, .int (y4_27 + (1:Int32))), (3, .int y3_27), (0, .ref ht), (1, .int a1), (2, .int a2)]) hx hb dX6_mostAlike_97 hl (k := 0) rfl (by first | rfl | decide) (by decide) rfl (fun ls hl => ?_)
            refine lv_goto (tgt := 27) hx hb dX6_mostAlike_100 (by decide) ?_
            exact ih27 y3_27 (y4_27 + (1:Int32)) x3.2 yvt_alike_27 _ _ _ (hP.sub (ws' := [(ht, .inr (5, [.int vt_clerks, .ref ht_drops, .ref ht_tires, .ref ht_now, .ref ht_told, .ref ht_text, .int vt_length, .ref ht_pages, .int vt_acts, .int vt_next, .ref ht_row, .int vt_found, .ref ht_alike, .ref ht_table, .ref ht_keys, .ref ht_own, .long vt_seed, .ref ht_isKept, .ref ht_kept])), (ht_drops, .inl (cI, 4, .inl vt_drops)), (ht_tires, .inl (cI, 4, .inl vt_tires)), (ht_now, .inl (cI, 13, .inl vt_now)), (ht_told, .inl (cI, 4, .inl vt_told)), (ht_pages, .inl (cI, 4, .inl x3.2)), (ht_alike, .inl (cI, 28672, .inl yvt_alike_27))]) [1, 2, 3, 4, 5, 6, 0] rfl) (hD.sub (ws' := [(ht, .inr (5, [.int vt_clerks, .ref ht_drops, .ref ht_tires, .ref ht_now, .ref ht_told, .ref ht_text, .int vt_length, .ref ht_pages, .int vt_acts, .int vt_next, .ref ht_row, .int vt_found, .ref ht_alike, .ref ht_table, .ref ht_keys, .ref ht_own, .long vt_seed, .ref ht_isKept, .ref ht_kept])), (ht_drops, .inl (cI, 4, .inl vt_drops)), (ht_tires, .inl (cI, 4, .inl vt_tires)), (ht_now, .inl (cI, 13, .inl vt_now)), (ht_told, .inl (cI, 4, .inl vt_told)), (ht_pages, .inl (cI, 4, .inl x3.2)), (ht_alike, .inl (cI, 28672, .inl yvt_alike_27))]) [1, 2, 3, 4, 5, 6, 0] (by decide) rfl) hS (lv_sub hl [0, 1, 2, 3, 4] rfl) hf
          · replace hf := dg_f c4 hf
            refine lv_aload_n hx hb dX6_mostAlike_51 rfl (lv_at hl 2 rfl) ?_
            refine va_get (D := (dC, dI)) (ci := 5) (v := .ref ht_alike) (C := RX6) (T := TX6) (N := 19) hx hb hts hinX6 hown hK hP 1 rfl rfl 12 (by decide) hw0 (fun _ h9 => h9) rfl dX6_mostAlike_52 ?_
            refine lv_aload_n hx hb dX6_mostAlike_55 rfl (lv_at hl 2 rfl) ?_
            refine va_get (D := (dC, dI)) (ci := 5) (v := .ref ht_pages) (C := RX6) (T := TX6) (N := 19) hx hb hts hinX6 hown hK hP 1 rfl rfl 7 (by decide) hw1 (fun _ h9 => h9) rfl dX6_mostAlike_56 ?_
            refine lv_iload_n hx hb dX6_mostAlike_59 rfl (lv_at hl 3 rfl) ?_
            obtain ⟨hi5, hf⟩ := dg_ix hf
            refine va_iald hx hb hK hP 6 0 rfl rfl hi5 dX6_mostAlike_60 ?_
            refine lv_dup2_11 hx hb dX6_mostAlike_61 rfl rfl ?_
            obtain ⟨hi6, hf⟩ := dg_ix hf
            refine va_iald hx hb hK hP 0 0 rfl rfl hi6 dX6_mostAlike_62 ?_
            refine lv_iconst (v := 1) hx hb dX6_mostAlike_63 (by decide) ?_
            refine lv_iadd hx hb dX6_mostAlike_64 ?_
            obtain ⟨hi7, hf⟩ := dg_ix hf
            refine va_iast hx hb hK hP hD hS 0 0 rfl rfl hi7 dX6_mostAlike_65 (fun H locs hP hD hS => ?_)
            have hP : va_P (dC, dI) vwCl [(ht_alike, .inl (cI, 28672, .inl (upd yvt_alike_27 (x3.2 a1.toNatClampNeg).toNatClampNeg ((yvt_alike_27 (x3.2 a1.toNatClampNeg).toNatClampNeg) + (1:Int32))))), (ht, .inr (5, [.int vt_clerks, .ref ht_drops, .ref ht_tires, .ref ht_now, .ref ht_told, .ref ht_text, .int vt_length, .ref ht_pages, .int vt_acts, .int vt_next, .ref ht_row, .int vt_found, .ref ht_alike, .ref ht_table, .ref ht_keys, .ref ht_own, .long vt_seed, .ref ht_isKept, .ref ht_kept])), (ht_drops, .inl (cI, 4, .inl vt_drops)), (ht_tires, .inl (cI, 4, .inl vt_tires)), (ht_now, .inl (cI, 13, .inl vt_now)), (ht_told, .inl (cI, 4, .inl vt_told)), (ht_pages, .inl (cI, 4, .inl x3.2))] H := hP
            have hD : va_D A [(ht_alike, .inl (cI, 28672, .inl (upd yvt_alike_27 (x3.2 a1.toNatClampNeg).toNatClampNeg ((yvt_alike_27 (x3.2 a1.toNatClampNeg).toNatClampNeg) + (1:Int32))))), (ht, .inr (5, [.int vt_clerks, .ref ht_drops, .ref ht_tires, .ref ht_now, .ref ht_told, .ref ht_text, .int vt_length, .ref ht_pages, .int vt_acts, .int vt_next, .ref ht_row, .int vt_found, .ref ht_alike, .ref ht_table, .ref ht_keys, .ref ht_own, .long vt_seed, .ref ht_isKept, .ref ht_kept])), (ht_drops, .inl (cI, 4, .inl vt_drops)), (ht_tires, .inl (cI, 4, .inl vt_tires)), (ht_now, .inl (cI, 13, .inl vt_now)), (ht_told, .inl (cI, 4, .inl vt_told)), (ht_pages, .inl (cI, 4, .inl x3.2))] := hD
            refine lv_aload_n hx hb dX6_mostAlike_66 rfl (lv_at hl 2 rfl) ?_
            refine va_get (D := (dC, dI)) (ci := 5) (v := .ref ht_alike) (C := RX6) (T := TX6) (N := 19) hx hb hts hinX6 hown hK hP 1 rfl rfl 12 (by decide) hw0 (fun _ h9 => h9) rfl dX6_mostAlike_67 ?_
            refine lv_aload_n hx hb dX6_mostAlike_70 rfl (lv_at hl 2 rfl) ?_
            refine va_get (D := (dC, dI)) (ci := 5) (v := .ref ht_pages) (C := RX6) (T := TX6) (N := 19) hx hb hts hinX6 hown hK hP 1 rfl rfl 7 (by decide) hw1 (fun _ h9 => h9) rfl dX6_mostAlike_71 ?_
            refine lv_iload_n hx hb dX6_mostAlike_74 rfl (lv_at hl 3 rfl) ?_
            obtain ⟨hi8, hf⟩ := dg_ix hf
            refine va_iald hx hb hK hP 6 0 rfl rfl hi8 dX6_mostAlike_75 ?_
            obtain ⟨hi9, hf⟩ := dg_ix hf
            refine va_iald hx hb hK hP 0 0 rfl rfl hi9 dX6_mostAlike_76 ?_
            refine lv_iload_n hx hb dX6_mostAlike_77 rfl (lv_at hl 1 rfl) ?_
            refine lv_icmp_le (tgt := 95) hx hb dX6_mostAlike_78 (by decide) (fun c10 => ?_) (fun c10 => ?_)
            · replace hf := dg_t c10 hf
              refine lv_iload_n hx hb dX6_mostAlike_95 rfl (lv_at hl 1 rfl) ?_
              refine lv_istore_n (lv' := [(3, .int y3_27), (4, .int y4_27), (0, .ref ht), (1, .int a1), (2, .int a2)]) hx hb dX6_mostAlike_96 rfl hl (by decide) rfl (fun ls hl => ?_)
              refine lv_iinc (v := (y4_27 + (1:Int32))) (lv' := [(4, .int (y4_27 + (1:Int32))), (3, .int y3_27), (0, .ref ht), (1, .int a1), (2, .int a2)]) hx hb dX6_mostAlike_97 hl (k := 1) rfl (by first | rfl | decide) (by decide) rfl (fun ls hl => ?_)
              refine lv_goto (tgt := 27) hx hb dX6_mostAlike_100 (by decide) ?_
              exact ih27 y3_27 (y4_27 + (1:Int32)) x3.2 (upd yvt_alike_27 (x3.2 a1.toNatClampNeg).toNatClampNeg ((yvt_alike_27 (x3.2 a1.toNatClampNeg).toNatClampNeg) + (1:Int32))) _ _ _ (hP.sub (ws' := [(ht, .inr (5, [.int vt_clerks, .ref ht_drops, .ref ht_tires, .ref ht_now, .ref ht_told, .ref ht_text, .int vt_length, .ref ht_pages, .int vt_acts, .int vt_next, .ref ht_row, .int vt_found, .ref ht_alike, .ref ht_table, .ref ht_keys, .ref ht_own, .long vt_seed, .ref ht_isKept, .ref ht_kept])), (ht_drops, .inl (cI, 4, .inl vt_drops)), (ht_tires, .inl (cI, 4, .inl vt_tires)), (ht_now, .inl (cI, 13, .inl vt_now)), (ht_told, .inl (cI, 4, .inl vt_told)), (ht_pages, .inl (cI, 4, .inl x3.2)), (ht_alike, .inl (cI, 28672, .inl (upd yvt_alike_27 (x3.2 a1.toNatClampNeg).toNatClampNeg ((yvt_alike_27 (x3.2 a1.toNatClampNeg).toNatClampNeg) + (1:Int32)))))]) [1, 2, 3, 4, 5, 6, 0] rfl) (hD.sub (ws' := [(ht, .inr (5, [.int vt_clerks, .ref ht_drops, .ref ht_tires, .ref ht_now, .ref ht_told, .ref ht_text, .int vt_length, .ref ht_pages, .int vt_acts, .int vt_next, .ref ht_row, .int vt_found, .ref ht_alike, .ref ht_table, .ref ht_keys, .ref ht_own, .long vt_seed, .ref ht_isKept, .ref ht_kept])), (ht_drops, .inl (cI, 4, .inl vt_drops)), (ht_tires, .inl (cI, 4, .inl vt_tires)), (ht_now, .inl (cI, 13, .inl vt_now)), (ht_told, .inl (cI, 4, .inl vt_told)), (ht_pages, .inl (cI, 4, .inl x3.2)), (ht_alike, .inl (cI, 28672, .inl (upd yvt_alike_27 (x3.2 a1.toNatClampNeg).toNatClampNeg ((yvt_alike_27 (x3.2 a1.toNatClampNeg).toNatClampNeg) + (1:Int32)))))]) [1, 2, 3, 4, 5, 6, 0] (by decide) rfl) hS (lv_sub hl [0, 1, 2, 3, 4] rfl) hf
            · replace hf := dg_f c10 hf
              refine lv_aload_n hx hb dX6_mostAlike_81 rfl (lv_at hl 2 rfl) ?_
              refine va_get (D := (dC, dI)) (ci := 5) (v := .ref ht_alike) (C := RX6) (T := TX6) (N := 19) hx hb hts hinX6 hown hK hP 1 rfl rfl 12 (by decide) hw0 (fun _ h9 => h9) rfl dX6_mostAlike_82 ?_
              refine lv_aload_n hx hb dX6_mostAlike_85 rfl (lv_at hl 2 rfl) ?_
              refine va_get (D := (dC, dI)) (ci := 5) (v := .ref ht_pages) (C := RX6) (T := TX6) (N := 19) hx hb hts hinX6 hown hK hP 1 rfl rfl 7 (by decide) hw1 (fun _ h9 => h9) rfl dX6_mostAlike_86 ?_
              refine lv_iload_n hx hb dX6_mostAlike_89 rfl (lv_at hl 3 rfl) ?_
              obtain ⟨hi11, hf⟩ := dg_ix hf
              refine va_iald hx hb hK hP 6 0 rfl rfl hi11 dX6_mostAlike_90 ?_
              obtain ⟨hi12, hf⟩ := dg_ix hf
              refine va_iald hx hb hK hP 0 0 rfl rfl hi12 dX6_mostAlike_91 ?_
              refine lv_goto (tgt := 96) hx hb dX6_mostAlike_92 (by decide) ?_
              refine lv_istore_n (lv' := [(3, .int ((upd yvt_alike_27 (x3.2 a1.toNatClampNeg).toNatClampNeg ((yvt_alike_27 (x3.2 a1.toNatClampNeg).toNatClampNeg) + (1:Int32))) (x3.2 a1.toNatClampNeg).toNatClampNeg)), (4, .int y4_27), (0, .ref ht), (1, .int a1), (2, .int a2)]) hx hb dX6_mostAlike_96 rfl hl (by decide) rfl (fun ls hl => ?_)
              refine lv_iinc (v := (y4_27 + (1:Int32))) (lv' := [(4, .int (y4_27 + (1:Int32))), (3, .int ((upd yvt_alike_27 (x3.2 a1.toNatClampNeg).toNatClampNeg ((yvt_alike_27 (x3.2 a1.toNatClampNeg).toNatClampNeg) + (1:Int32))) (x3.2 a1.toNatClampNeg).toNatClampNeg)), (0, .ref ht), (1, .int a1), (2, .int a2)]) hx hb dX6_mostAlike_97 hl (k := 1) rfl (by first | rfl | decide) (by decide) rfl (fun ls hl => ?_)
              refine lv_goto (tgt := 27) hx hb dX6_mostAlike_100 (by decide) ?_
              exact ih27 ((upd yvt_alike_27 (x3.2 a1.toNatClampNeg).toNatClampNeg ((yvt_alike_27 (x3.2 a1.toNatClampNeg).toNatClampNeg) + (1:Int32))) (x3.2 a1.toNatClampNeg).toNatClampNeg) (y4_27 + (1:Int32)) x3.2 (upd yvt_alike_27 (x3.2 a1.toNatClampNeg).toNatClampNeg ((yvt_alike_27 (x3.2 a1.toNatClampNeg).toNatClampNeg) + (1:Int32))) _ _ _ (hP.sub (ws' := [(ht, .inr (5, [.int vt_clerks, .ref ht_drops, .ref ht_tires, .ref ht_now, .ref ht_told, .ref ht_text, .int vt_length, .ref ht_pages, .int vt_acts, .int vt_next, .ref ht_row, .int vt_found, .ref ht_alike, .ref ht_table, .ref ht_keys, .ref ht_own, .long vt_seed, .ref ht_isKept, .ref ht_kept])), (ht_drops, .inl (cI, 4, .inl vt_drops)), (ht_tires, .inl (cI, 4, .inl vt_tires)), (ht_now, .inl (cI, 13, .inl vt_now)), (ht_told, .inl (cI, 4, .inl vt_told)), (ht_pages, .inl (cI, 4, .inl x3.2)), (ht_alike, .inl (cI, 28672, .inl (upd yvt_alike_27 (x3.2 a1.toNatClampNeg).toNatClampNeg ((yvt_alike_27 (x3.2 a1.toNatClampNeg).toNatClampNeg) + (1:Int32)))))]) [1, 2, 3, 4, 5, 6, 0] rfl) (hD.sub (ws' := [(ht, .inr (5, [.int vt_clerks, .ref ht_drops, .ref ht_tires, .ref ht_now, .ref ht_told, .ref ht_text, .int vt_length, .ref ht_pages, .int vt_acts, .int vt_next, .ref ht_row, .int vt_found, .ref ht_alike, .ref ht_table, .ref ht_keys, .ref ht_own, .long vt_seed, .ref ht_isKept, .ref ht_kept])), (ht_drops, .inl (cI, 4, .inl vt_drops)), (ht_tires, .inl (cI, 4, .inl vt_tires)), (ht_now, .inl (cI, 13, .inl vt_now)), (ht_told, .inl (cI, 4, .inl vt_told)), (ht_pages, .inl (cI, 4, .inl x3.2)), (ht_alike, .inl (cI, 28672, .inl (upd yvt_alike_27 (x3.2 a1.toNatClampNeg).toNatClampNeg ((yvt_alike_27 (x3.2 a1.toNatClampNeg).toNatClampNeg) + (1:Int32)))))]) [1, 2, 3, 4, 5, 6, 0] (by decide) rfl) hS (lv_sub hl [0, 1, 2, 3, 4] rfl) hf
    exact lp27 N (0:Int32) (0:Int32) vt_pages zvt_alike_2 _ _ _ hP hD hS hl hf
  have lp2 : ∀ (n2 : Nat) (y3_2 : Int32) (yvt_alike_2 : (Nat → Int32)) (H : Heap) (locs : List Loc) (ls : Array Slot), va_P (dC, dI) vwCl [(ht, .inr (5, [.int vt_clerks, .ref ht_drops, .ref ht_tires, .ref ht_now, .ref ht_told, .ref ht_text, .int vt_length, .ref ht_pages, .int vt_acts, .int vt_next, .ref ht_row, .int vt_found, .ref ht_alike, .ref ht_table, .ref ht_keys, .ref ht_own, .long vt_seed, .ref ht_isKept, .ref ht_kept])), (ht_drops, .inl (cI, 4, .inl vt_drops)), (ht_tires, .inl (cI, 4, .inl vt_tires)), (ht_now, .inl (cI, 13, .inl vt_now)), (ht_told, .inl (cI, 4, .inl vt_told)), (ht_pages, .inl (cI, 4, .inl vt_pages)), (ht_alike, .inl (cI, 28672, .inl yvt_alike_2))] H → va_D A [(ht, .inr (5, [.int vt_clerks, .ref ht_drops, .ref ht_tires, .ref ht_now, .ref ht_told, .ref ht_text, .int vt_length, .ref ht_pages, .int vt_acts, .int vt_next, .ref ht_row, .int vt_found, .ref ht_alike, .ref ht_table, .ref ht_keys, .ref ht_own, .long vt_seed, .ref ht_isKept, .ref ht_kept])), (ht_drops, .inl (cI, 4, .inl vt_drops)), (ht_tires, .inl (cI, 4, .inl vt_tires)), (ht_now, .inl (cI, 13, .inl vt_now)), (ht_told, .inl (cI, 4, .inl vt_told)), (ht_pages, .inl (cI, 4, .inl vt_pages)), (ht_alike, .inl (cI, 28672, .inl yvt_alike_2))] → va_S A s.heap H locs → lv_has ls 5 [(3, .int y3_2), (0, .ref ht), (1, .int a1), (2, .int a2)] → f_X6_mostAlike_2 N (fun z3_2 zvt_alike_2 => f_X6_mostAlike_27 N a1 a2 vt_clerks vt_drops vt_tires vt_now vt_told (fun z3_27 z4_27 zvt_pages_27 zvt_alike_27 => some (z3_27, (zvt_pages_27, zvt_alike_27))) N (0:Int32) (0:Int32) vt_pages zvt_alike_2) n2 y3_2 yvt_alike_2 = some R → W p l e (rm_X6_mostAlike) s m ([.ref ht, .int a1, .int a2] : List Value).toArray below meth c H locs 0 0 (MQ below (q_X6_mostAlike dC dI cI cJ cZ ht ht_drops ht_tires ht_now ht_told ht_text ht_pages ht_row ht_alike ht_table ht_keys ht_own ht_isKept ht_kept vt_clerks vt_length vt_acts vt_next vt_found vt_seed vt_drops vt_tires vt_now vt_told R A) ([.ref ht, .int a1, .int a2] : List Value).toArray s 0 0 A) (F0 m 2 ls []) := by
    intro n2
    induction n2 with
    | zero => intro y3_2 yvt_alike_2 H locs ls hP hD hS hl hf; rw [f_X6_mostAlike_2] at hf; cases hf
    | succ n2 ih2 =>
      intro y3_2 yvt_alike_2 H locs ls hP hD hS hl hf
      rw [f_X6_mostAlike_2] at hf
      refine lv_iload_n hx hb dX6_mostAlike_2 rfl (lv_at hl 0 rfl) ?_
      refine lv_sipush (v := 28672) hx hb dX6_mostAlike_3 (by decide) ?_
      refine lv_icmp_ge (tgt := 22) hx hb dX6_mostAlike_6 (by decide) (fun c13 => ?_) (fun c13 => ?_)
      · replace hf := dg_t c13 hf
        exact ex2 y3_2 yvt_alike_2 _ _ _ hP hD hS (lv_sub hl [0, 1, 2, 3] rfl) hf
      · replace hf := dg_f c13 hf
        refine lv_aload_n hx hb dX6_mostAlike_9 rfl (lv_at hl 1 rfl) ?_
        refine va_get (D := (dC, dI)) (ci := 5) (v := .ref ht_alike) (C := RX6) (T := TX6) (N := 19) hx hb hts hinX6 hown hK hP 0 rfl rfl 12 (by decide) hw0 (fun _ h9 => h9) rfl dX6_mostAlike_10 ?_
        refine lv_iload_n hx hb dX6_mostAlike_13 rfl (lv_at hl 0 rfl) ?_
        refine lv_iconst (v := 0) hx hb dX6_mostAlike_14 (by decide) ?_
        obtain ⟨hi14, hf⟩ := dg_ix hf
        refine va_iast hx hb hK hP hD hS 6 0 rfl rfl hi14 dX6_mostAlike_15 (fun H locs hP hD hS => ?_)
        have hP : va_P (dC, dI) vwCl [(ht, .inr (5, [.int vt_clerks, .ref ht_drops, .ref ht_tires, .ref ht_now, .ref ht_told, .ref ht_text, .int vt_length, .ref ht_pages, .int vt_acts, .int vt_next, .ref ht_row, .int vt_found, .ref ht_alike, .ref ht_table, .ref ht_keys, .ref ht_own, .long vt_seed, .ref ht_isKept, .ref ht_kept])), (ht_drops, .inl (cI, 4, .inl vt_drops)), (ht_tires, .inl (cI, 4, .inl vt_tires)), (ht_now, .inl (cI, 13, .inl vt_now)), (ht_told, .inl (cI, 4, .inl vt_told)), (ht_pages, .inl (cI, 4, .inl vt_pages)), (ht_alike, .inl (cI, 28672, .inl (upd yvt_alike_2 y3_2.toNatClampNeg (0:Int32))))] H := hP
        have hD : va_D A [(ht, .inr (5, [.int vt_clerks, .ref ht_drops, .ref ht_tires, .ref ht_now, .ref ht_told, .ref ht_text, .int vt_length, .ref ht_pages, .int vt_acts, .int vt_next, .ref ht_row, .int vt_found, .ref ht_alike, .ref ht_table, .ref ht_keys, .ref ht_own, .long vt_seed, .ref ht_isKept, .ref ht_kept])), (ht_drops, .inl (cI, 4, .inl vt_drops)), (ht_tires, .inl (cI, 4, .inl vt_tires)), (ht_now, .inl (cI, 13, .inl vt_now)), (ht_told, .inl (cI, 4, .inl vt_told)), (ht_pages, .inl (cI, 4, .inl vt_pages)), (ht_alike, .inl (cI, 28672, .inl (upd yvt_alike_2 y3_2.toNatClampNeg (0:Int32))))] := hD
        refine lv_iinc (v := (y3_2 + (1:Int32))) (lv' := [(3, .int (y3_2 + (1:Int32))), (0, .ref ht), (1, .int a1), (2, .int a2)]) hx hb dX6_mostAlike_16 hl (k := 0) rfl (by first | rfl | decide) (by decide) rfl (fun ls hl => ?_)
        refine lv_goto (tgt := 2) hx hb dX6_mostAlike_19 (by decide) ?_
        exact ih2 (y3_2 + (1:Int32)) (upd yvt_alike_2 y3_2.toNatClampNeg (0:Int32)) _ _ _ hP hD hS (lv_sub hl [0, 1, 2, 3] rfl) hf
  exact lp2 N (0:Int32) vt_alike _ _ _ hP hD hS hl hf
