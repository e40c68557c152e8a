theorem hd_X1_takeDownBy : yX1_takeDownBy.cls = RX1 ∧ yX1_takeDownBy.cls ≠ "java/lang/invoke/MethodHandle" ∧ yX1_takeDownBy.cls ≠ "java/lang/invoke/VarHandle" ∧ (parseMethodDescriptor yX1_takeDownBy.desc).map (fun d => d.parameters.length) = some 2 := by decide +kernel
abbrev rm_X1_takeDownBy : Room := { frames := 3, cells := 0, slots := 0, locals := 73 }
abbrev q_X1_takeDownBy (dC : Nat → ClassId) (dI : Nat → Nat → Nat) (cI cJ cZ : ClassId) (ht ht_drops ht_from ht_to ht_tires ht_copies ht_pages : Nat) (vt_size : Int32) (vt_drops : Nat → Int32) (vt_from : Nat → Int32) (vt_to : Nat → Int32) (vt_tires : Nat → Int32) (vt_copies : Nat → Int32) (R : (Nat → Int32)) (A : Nat → Prop) : Array Value → State → Outcome → State → Prop := va_Qv (fun (u : (Nat → Int32)) => R = u) (fun (u : (Nat → Int32)) (t : State) => va_P (dC, dI) vwCl [(ht, .inr (1, [.ref ht_drops, .ref ht_from, .ref ht_to, .ref ht_tires, .ref ht_copies, .ref ht_pages, .int vt_size])), (ht_drops, .inl (cI, 4, .inl vt_drops)), (ht_from, .inl (cI, 4, .inl vt_from)), (ht_to, .inl (cI, 4, .inl vt_to)), (ht_tires, .inl (cI, 4, .inl vt_tires)), (ht_copies, .inl (cI, 4, .inl vt_copies)), (ht_pages, .inl (cI, 4, .inl u))] t.heap ∧ va_K (dC, dI) vwCl [(cI, .int), (cJ, .long), (cZ, .boolean)] t ∧ va_D A [(ht, .inr (1, [.ref ht_drops, .ref ht_from, .ref ht_to, .ref ht_tires, .ref ht_copies, .ref ht_pages, .int vt_size])), (ht_drops, .inl (cI, 4, .inl vt_drops)), (ht_from, .inl (cI, 4, .inl vt_from)), (ht_to, .inl (cI, 4, .inl vt_to)), (ht_tires, .inl (cI, 4, .inl vt_tires)), (ht_copies, .inl (cI, 4, .inl vt_copies)), (ht_pages, .inl (cI, 4, .inl u))]) A
set_option maxHeartbeats 4000000 in
set_option maxRecDepth 100000 in
theorem k_X1_takeDownBy (l : Launch) (dC : Nat → ClassId) (dI : Nat → Nat → Nat) (cI cJ cZ : ClassId) (sz : Nat) (ht ht_drops ht_from ht_to ht_tires ht_copies ht_pages : Nat) (a1 : Int32) (a2 : Int32) (vt_size : Int32) (vt_drops : Nat → Int32) (vt_from : Nat → Int32) (vt_to : Nat → Int32) (vt_tires : Nat → Int32) (vt_copies : Nat → Int32) (vt_pages : Nat → Int32) (N : Nat) (R : (Nat → Int32)) (hf : f_X1_takeDownBy N a1 a2 vt_drops vt_from vt_to vt_tires vt_copies vt_pages = some R) : Met l yX1_takeDownBy wsX1_takeDownBy (rm_X1_takeDownBy) (va_Pc [.ref ht, .int a1, .int a2] (fun U => U.heap.size = sz ∧ va_P (dC, dI) vwCl [(ht, .inr (1, [.ref ht_drops, .ref ht_from, .ref ht_to, .ref ht_tires, .ref ht_copies, .ref ht_pages, .int vt_size])), (ht_drops, .inl (cI, 4, .inl vt_drops)), (ht_from, .inl (cI, 4, .inl vt_from)), (ht_to, .inl (cI, 4, .inl vt_to)), (ht_tires, .inl (cI, 4, .inl vt_tires)), (ht_copies, .inl (cI, 4, .inl vt_copies)), (ht_pages, .inl (cI, 4, .inl vt_pages))] U.heap ∧ va_K (dC, dI) vwCl [(cI, .int), (cJ, .long), (cZ, .boolean)] U ∧ va_D (fun _ => True) [(ht, .inr (1, [.ref ht_drops, .ref ht_from, .ref ht_to, .ref ht_tires, .ref ht_copies, .ref ht_pages, .int vt_size])), (ht_drops, .inl (cI, 4, .inl vt_drops)), (ht_from, .inl (cI, 4, .inl vt_from)), (ht_to, .inl (cI, 4, .inl vt_to)), (ht_tires, .inl (cI, 4, .inl vt_tires)), (ht_copies, .inl (cI, 4, .inl vt_copies)), (ht_pages, .inl (cI, 4, .inl vt_pages))])) (q_X1_takeDownBy dC dI cI cJ cZ ht ht_drops ht_from ht_to ht_tires ht_copies ht_pages vt_size vt_drops vt_from vt_to vt_tires vt_copies R (va_A [(ht, .inr (1, [.ref ht_drops, .ref ht_from, .ref ht_to, .ref ht_tires, .ref ht_copies, .ref ht_pages, .int vt_size])), (ht_drops, .inl (cI, 4, .inl vt_drops)), (ht_from, .inl (cI, 4, .inl vt_from)), (ht_to, .inl (cI, 4, .inl vt_to)), (ht_tires, .inl (cI, 4, .inl vt_tires)), (ht_copies, .inl (cI, 4, .inl vt_copies)), (ht_pages, .inl (cI, 4, .inl vt_pages))] sz)) 0 0 (va_A [(ht, .inr (1, [.ref ht_drops, .ref ht_from, .ref ht_to, .ref ht_tires, .ref ht_copies, .ref ht_pages, .int vt_size])), (ht_drops, .inl (cI, 4, .inl vt_drops)), (ht_from, .inl (cI, 4, .inl vt_from)), (ht_to, .inl (cI, 4, .inl vt_to)), (ht_tires, .inl (cI, 4, .inl vt_tires)), (ht_copies, .inl (cI, 4, .inl vt_copies)), (ht_pages, .inl (cI, 4, .inl vt_pages))] sz) := by
  refine Met.ofW (cc := cX1_takeDownBy) (maxL := 4) (ret := none) (by decide) rfl ?_
  intro p e s m args below meth c s₁ B hml hv
  obtain ⟨rfl, hsz, hP, hK, hD0⟩ := hv
  have hx := B.exec
  have hb := B.bytes
  have hr := B.returns
  have hts := atoms_spec (ws := wsX1_takeDownBy) B.pre
  have hown : s.vm.findClass RX1 = some m.cls := findClass_of_methodNamed B.named
  have hlocks := B.notSynchronized
  clear B
  subst hsz
  have hw0 := hts (.fieldLink RX1 24 "ShorthandCourt$Bench" "copies" "[I") (by decide +kernel)
  have hw1 := hts (.fieldLink RX1 27 "ShorthandCourt$Bench" "pages" "[I") (by decide +kernel)
  have hinX1 : ∀ w ∈ u_ws RX1 TX1 7, w ∈ wsX1_takeDownBy := by decide +kernel
  have hD := hD0.self (sz := s.heap.size)
  clear hD0
  generalize hAe : va_A [(ht, .inr (1, [.ref ht_drops, .ref ht_from, .ref ht_to, .ref ht_tires, .ref ht_copies, .ref ht_pages, .int vt_size])), (ht_drops, .inl (cI, 4, .inl vt_drops)), (ht_from, .inl (cI, 4, .inl vt_from)), (ht_to, .inl (cI, 4, .inl vt_to)), (ht_tires, .inl (cI, 4, .inl vt_tires)), (ht_copies, .inl (cI, 4, .inl vt_copies)), (ht_pages, .inl (cI, 4, .inl vt_pages))] s.heap.size = A at hD ⊢
  have hA : ∀ q : Nat, s.heap.size ≤ q → A q := fun q h => by rw [← hAe]; exact Or.inr h
  clear hAe
  have hS : va_S A s.heap s.heap [] := va_S.rf
  have hl := lv_entry ([.ref ht, .int a1, .int a2]) (n := 4) (Nat.le_of_ble_eq_true rfl)
  rw [lg_entry_eq]
  generalize (lg_sl ([.ref ht, .int a1, .int a2]) ++ List.replicate (4 - (lg_sl ([.ref ht, .int a1, .int a2])).length) Slot.unset).toArray = ls at hl ⊢
  have hl : lv_has ls 4 [(0, .ref ht), (1, .int a1), (2, .int a2)] := hl
  unfold f_X1_takeDownBy at hf
  refine lv_aload_n hx hb dX1_takeDownBy_0 rfl (lv_at hl 0 rfl) ?_
  refine va_get (D := (dC, dI)) (ci := 1) (v := .ref ht_copies) (C := RX1) (T := TX1) (N := 7) hx hb hts hinX1 hown hK hP 0 rfl rfl 4 (by decide) hw0 (fun _ h9 => h9) rfl dX1_takeDownBy_1 ?_
  refine lv_iload_n hx hb dX1_takeDownBy_4 rfl (lv_at hl 1 rfl) ?_
  obtain ⟨hi1, hf⟩ := dg_ix hf
  refine va_iald hx hb hK hP 5 0 rfl rfl hi1 dX1_takeDownBy_5 ?_
  refine lv_iconst (v := 1) hx hb dX1_takeDownBy_6 (by decide) ?_
  refine lv_isub hx hb dX1_takeDownBy_7 ?_
  refine lv_istore_n (lv' := [(3, .int ((vt_copies a1.toNatClampNeg) - (1:Int32))), (0, .ref ht), (1, .int a1), (2, .int a2)]) hx hb dX1_takeDownBy_8 rfl hl (by decide) rfl (fun ls hl => ?_)
  refine lv_aload_n hx hb dX1_takeDownBy_9 rfl (lv_at hl 1 rfl) ?_
  refine va_get (D := (dC, dI)) (ci := 1) (v := .ref ht_pages) (C := RX1) (T := TX1) (N := 7) hx hb hts hinX1 hown hK hP 0 rfl rfl 5 (by decide) hw1 (fun _ h9 => h9) rfl dX1_takeDownBy_10 ?_
  refine lv_iload_n hx hb dX1_takeDownBy_13 rfl (lv_at hl 2 rfl) ?_
  refine lv_aload_n hx hb dX1_takeDownBy_14 rfl (lv_at hl 1 rfl) ?_
  refine lv_iload_n hx hb dX1_takeDownBy_15 rfl (lv_at hl 2 rfl) ?_
  refine lv_iload_n hx hb dX1_takeDownBy_16 rfl (lv_at hl 0 rfl) ?_
  refine lv_if_lt (tgt := 34) hx hb dX1_takeDownBy_17 (by decide) (fun c2 => ?_) (fun c2 => ?_)
  · replace hf := dg_t c2 hf
    refine lv_iload_n hx hb dX1_takeDownBy_34 rfl (lv_at hl 3 rfl) ?_
    obtain ⟨x3, hx3, hf⟩ := dg_bind hf
    have hPc : va_P (dC, dI) vwCl [(ht, .inr (1, [.ref ht_drops, .ref ht_from, .ref ht_to, .ref ht_tires, .ref ht_copies, .ref ht_pages, .int vt_size])), (ht_drops, .inl (cI, 4, .inl vt_drops)), (ht_from, .inl (cI, 4, .inl vt_from)), (ht_to, .inl (cI, 4, .inl vt_to)), (ht_tires, .inl (cI, 4, .inl vt_tires))] s.heap := hP.sub [0, 1, 2, 3, 4] rfl
    have hDc : va_D A [(ht, .inr (1, [.ref ht_drops, .ref ht_from, .ref ht_to, .ref ht_tires, .ref ht_copies, .ref ht_pages, .int vt_size])), (ht_drops, .inl (cI, 4, .inl vt_drops)), (ht_from, .inl (cI, 4, .inl vt_from)), (ht_to, .inl (cI, 4, .inl vt_to)), (ht_tires, .inl (cI, 4, .inl vt_tires))] := hD.sub [0, 1, 2, 3, 4] (by decide) rfl
    have hFc := va_free (wc := [(ht, .inr (1, [.ref ht_drops, .ref ht_from, .ref ht_to, .ref ht_tires, .ref ht_copies, .ref ht_pages, .int vt_size])), (ht_drops, .inl (cI, 4, .inl vt_drops)), (ht_from, .inl (cI, 4, .inl vt_from)), (ht_to, .inl (cI, 4, .inl vt_to)), (ht_tires, .inl (cI, 4, .inl vt_tires))]) hD hS hA [0, 1, 2, 3, 4] rfl
    refine va_calli (va_runV (As := [.int a1, .int a2]) (rest := [.int a1, .ref ht_pages]) ⟨hx, hb, hml, hown, hts⟩ (k_X1_pageFrom l dC dI cI cJ cZ s.heap.size ht ht_drops ht_from ht_to ht_tires ht_copies ht_pages a1 a2 vt_size vt_drops vt_from vt_to vt_tires N x3 hx3) (cwV 2 hts gX1_takeDownBy_X1_pageFrom rfl rfl rfl hd_X1_pageFrom ⟨Nat.le_of_ble_eq_true rfl, Nat.le_of_ble_eq_true rfl⟩) ⟨blind_pc, va_recv hK hPc (ci := 1) (q0 := 0) rfl rfl, pre_pc hPc hK hDc⟩ rfl rfl hl.1 rfl (lv_room (Nat.le_of_ble_eq_true rfl)) dX1_takeDownBy_35 ⟨Nat.zero_le _, Nat.zero_le _⟩) hS (fun q _ h => hFc q h) hFc (fun r u t H1 locs eth hvm hw hB hz1 hk1 hS => ?_)
    obtain ⟨hP1, hK1, hD1⟩ := hB
    rw [eth] at hP1
    subst hw
    obtain ⟨hP, hD⟩ := va_join (wr := [(ht_copies, .inl (cI, 4, .inl vt_copies)), (ht_pages, .inl (cI, 4, .inl vt_pages))]) (w1 := [(ht, .inr (1, [.ref ht_drops, .ref ht_from, .ref ht_to, .ref ht_tires, .ref ht_copies, .ref ht_pages, .int vt_size])), (ht_drops, .inl (cI, 4, .inl vt_drops)), (ht_from, .inl (cI, 4, .inl vt_from)), (ht_to, .inl (cI, 4, .inl vt_to)), (ht_tires, .inl (cI, 4, .inl vt_tires))]) hP hD [0, 1, 2, 3, 4] [5, 6] rfl rfl (by decide) (by decide) hk1 hFc hP1 hD1
    clear hP1 hK1 hD1 hPc hDc hFc hk1 hz1 hvm eth
    generalize H1 = H at hP hS ⊢
    have hP : va_P (dC, dI) vwCl [(ht_copies, .inl (cI, 4, .inl vt_copies)), (ht_pages, .inl (cI, 4, .inl vt_pages)), (ht, .inr (1, [.ref ht_drops, .ref ht_from, .ref ht_to, .ref ht_tires, .ref ht_copies, .ref ht_pages, .int vt_size])), (ht_drops, .inl (cI, 4, .inl vt_drops)), (ht_from, .inl (cI, 4, .inl vt_from)), (ht_to, .inl (cI, 4, .inl vt_to)), (ht_tires, .inl (cI, 4, .inl vt_tires))] H := hP
    have hD : va_D A [(ht_copies, .inl (cI, 4, .inl vt_copies)), (ht_pages, .inl (cI, 4, .inl vt_pages)), (ht, .inr (1, [.ref ht_drops, .ref ht_from, .ref ht_to, .ref ht_tires, .ref ht_copies, .ref ht_pages, .int vt_size])), (ht_drops, .inl (cI, 4, .inl vt_drops)), (ht_from, .inl (cI, 4, .inl vt_from)), (ht_to, .inl (cI, 4, .inl vt_to)), (ht_tires, .inl (cI, 4, .inl vt_tires))] := hD
    obtain ⟨hi4, hf⟩ := dg_ix hf
    refine va_iast hx hb hK hP hD hS 1 0 rfl rfl hi4 dX1_takeDownBy_38 (fun H locs hP hD hS => ?_)
    have hP : va_P (dC, dI) vwCl [(ht_copies, .inl (cI, 4, .inl vt_copies)), (ht_pages, .inl (cI, 4, .inl (upd vt_pages a1.toNatClampNeg x3))), (ht, .inr (1, [.ref ht_drops, .ref ht_from, .ref ht_to, .ref ht_tires, .ref ht_copies, .ref ht_pages, .int vt_size])), (ht_drops, .inl (cI, 4, .inl vt_drops)), (ht_from, .inl (cI, 4, .inl vt_from)), (ht_to, .inl (cI, 4, .inl vt_to)), (ht_tires, .inl (cI, 4, .inl vt_tires))] H := hP
    have hD : va_D A [(ht_copies, .inl (cI, 4, .inl vt_copies)), (ht_pages, .inl (cI, 4, .inl (upd vt_pages a1.toNatClampNeg x3))), (ht, .inr (1, [.ref ht_drops, .ref ht_from, .ref ht_to, .ref ht_tires, .ref ht_copies, .ref ht_pages, .int vt_size])), (ht_drops, .inl (cI, 4, .inl vt_drops)), (ht_from, .inl (cI, 4, .inl vt_from)), (ht_to, .inl (cI, 4, .inl vt_to)), (ht_tires, .inl (cI, 4, .inl vt_tires))] := hD
    have he := Option.some.inj hf
    have hP9 := (hP.sub (ws' := [(ht, .inr (1, [.ref ht_drops, .ref ht_from, .ref ht_to, .ref ht_tires, .ref ht_copies, .ref ht_pages, .int vt_size])), (ht_drops, .inl (cI, 4, .inl vt_drops)), (ht_from, .inl (cI, 4, .inl vt_from)), (ht_to, .inl (cI, 4, .inl vt_to)), (ht_tires, .inl (cI, 4, .inl vt_tires)), (ht_copies, .inl (cI, 4, .inl vt_copies)), (ht_pages, .inl (cI, 4, .inl (upd vt_pages a1.toNatClampNeg x3)))]) [2, 3, 4, 5, 6, 0, 1] rfl)
    have hD9 := (hD.sub (ws' := [(ht, .inr (1, [.ref ht_drops, .ref ht_from, .ref ht_to, .ref ht_tires, .ref ht_copies, .ref ht_pages, .int vt_size])), (ht_drops, .inl (cI, 4, .inl vt_drops)), (ht_from, .inl (cI, 4, .inl vt_from)), (ht_to, .inl (cI, 4, .inl vt_to)), (ht_tires, .inl (cI, 4, .inl vt_tires)), (ht_copies, .inl (cI, 4, .inl vt_copies)), (ht_pages, .inl (cI, 4, .inl (upd vt_pages a1.toNatClampNeg x3)))]) [2, 3, 4, 5, 6, 0, 1] (by decide) rfl)
    exact W.vret hx hb hr (fun t eth hW => ⟨⟨(upd vt_pages a1.toNatClampNeg x3), rfl, he.symm, by rw [eth]; exact hP9, va_K.moved hW.alike hK, hD9⟩, hS.F eth⟩) hS.2.2 dX1_takeDownBy_39
  · replace hf := dg_f c2 hf
    refine lv_iload_n hx hb dX1_takeDownBy_20 rfl (lv_at hl 0 rfl) ?_
    refine lv_iload_n hx hb dX1_takeDownBy_21 rfl (lv_at hl 2 rfl) ?_
    refine lv_icmp_ge (tgt := 34) hx hb dX1_takeDownBy_22 (by decide) (fun c5 => ?_) (fun c5 => ?_)
    · replace hf := dg_t c5 hf
      refine lv_iload_n hx hb dX1_takeDownBy_34 rfl (lv_at hl 3 rfl) ?_
      obtain ⟨x6, hx6, hf⟩ := dg_bind hf
      have hPc : va_P (dC, dI) vwCl [(ht, .inr (1, [.ref ht_drops, .ref ht_from, .ref ht_to, .ref ht_tires, .ref ht_copies, .ref ht_pages, .int vt_size])), (ht_drops, .inl (cI, 4, .inl vt_drops)), (ht_from, .inl (cI, 4, .inl vt_from)), (ht_to, .inl (cI, 4, .inl vt_to)), (ht_tires, .inl (cI, 4, .inl vt_tires))] s.heap := hP.sub [0, 1, 2, 3, 4] rfl
      have hDc : va_D A [(ht, .inr (1, [.ref ht_drops, .ref ht_from, .ref ht_to, .ref ht_tires, .ref ht_copies, .ref ht_pages, .int vt_size])), (ht_drops, .inl (cI, 4, .inl vt_drops)), (ht_from, .inl (cI, 4, .inl vt_from)), (ht_to, .inl (cI, 4, .inl vt_to)), (ht_tires, .inl (cI, 4, .inl vt_tires))] := hD.sub [0, 1, 2, 3, 4] (by decide) rfl
      have hFc := va_free (wc := [(ht, .inr (1, [.ref ht_drops, .ref ht_from, .ref ht_to, .ref ht_tires, .ref ht_copies, .ref ht_pages, .int vt_size])), (ht_drops, .inl (cI, 4, .inl vt_drops)), (ht_from, .inl (cI, 4, .inl vt_from)), (ht_to, .inl (cI, 4, .inl vt_to)), (ht_tires, .inl (cI, 4, .inl vt_tires))]) hD hS hA [0, 1, 2, 3, 4] rfl
      refine va_calli (va_runV (As := [.int a1, .int a2]) (rest := [.int a1, .ref ht_pages]) ⟨hx, hb, hml, hown, hts⟩ (k_X1_pageFrom l dC dI cI cJ cZ s.heap.size ht ht_drops ht_from ht_to ht_tires ht_copies ht_pages a1 a2 vt_size vt_drops vt_from vt_to vt_tires N x6 hx6) (cwV 2 hts gX1_takeDownBy_X1_pageFrom rfl rfl rfl hd_X1_pageFrom ⟨Nat.le_of_ble_eq_true rfl, Nat.le_of_ble_eq_true rfl⟩) ⟨blind_pc, va_recv hK hPc (ci := 1) (q0 := 0) rfl rfl, pre_pc hPc hK hDc⟩ rfl rfl hl.1 rfl (lv_room (Nat.le_of_ble_eq_true rfl)) dX1_takeDownBy_35 ⟨Nat.zero_le _, Nat.zero_le _⟩) hS (fun q _ h => hFc q h) hFc (fun r u t H1 locs eth hvm hw hB hz1 hk1 hS => ?_)
      obtain ⟨hP1, hK1, hD1⟩ := hB
      rw [eth] at hP1
      subst hw
      obtain ⟨hP, hD⟩ := va_join (wr := [(ht_copies, .inl (cI, 4, .inl vt_copies)), (ht_pages, .inl (cI, 4, .inl vt_pages))]) (w1 := [(ht, .inr (1, [.ref ht_drops, .ref ht_from, .ref ht_to, .ref ht_tires, .ref ht_copies, .ref ht_pages, .int vt_size])), (ht_drops, .inl (cI, 4, .inl vt_drops)), (ht_from, .inl (cI, 4, .inl vt_from)), (ht_to, .inl (cI, 4, .inl vt_to)), (ht_tires, .inl (cI, 4, .inl vt_tires))]) hP hD [0, 1, 2, 3, 4] [5, 6] rfl rfl (by decide) (by decide) hk1 hFc hP1 hD1
      clear hP1 hK1 hD1 hPc hDc hFc hk1 hz1 hvm eth
      generalize H1 = H at hP hS ⊢
      have hP : va_P (dC, dI) vwCl [(ht_copies, .inl (cI, 4, .inl vt_copies)), (ht_pages, .inl (cI, 4, .inl vt_pages)), (ht, .inr (1, [.ref ht_drops, .ref ht_from, .ref ht_to, .ref ht_tires, .ref ht_copies, .ref ht_pages, .int vt_size])), (ht_drops, .inl (cI, 4, .inl vt_drops)), (ht_from, .inl (cI, 4, .inl vt_from)), (ht_to, .inl (cI, 4, .inl vt_to)), (ht_tires, .inl (cI, 4, .inl vt_tires))] H := hP
      have hD : va_D A [(ht_copies, .inl (cI, 4, .inl vt_copies)), (ht_pages, .inl (cI, 4, .inl vt_pages)), (ht, .inr (1, [.ref ht_drops, .ref ht_from, .ref ht_to, .ref ht_tires, .ref ht_copies, .ref ht_pages, .int vt_size])), (ht_drops, .inl (cI, 4, .inl vt_drops)), (ht_from, .inl (cI, 4, .inl vt_from)), (ht_to, .inl (cI, 4, .inl vt_to)), (ht_tires, .inl (cI, 4, .inl vt_tires))] := hD
      obtain ⟨hi7, hf⟩ := dg_ix hf
      refine va_iast hx hb hK hP hD hS 1 0 rfl rfl hi7 dX1_takeDownBy_38 (fun H locs hP hD hS => ?_)
      have hP : va_P (dC, dI) vwCl [(ht_copies, .inl (cI, 4, .inl vt_copies)), (ht_pages, .inl (cI, 4, .inl (upd vt_pages a1.toNatClampNeg x6))), (ht, .inr (1, [.ref ht_drops, .ref ht_from, .ref ht_to, .ref ht_tires, .ref ht_copies, .ref ht_pages, .int vt_size])), (ht_drops, .inl (cI, 4, .inl vt_drops)), (ht_from, .inl (cI, 4, .inl vt_from)), (ht_to, .inl (cI, 4, .inl vt_to)), (ht_tires, .inl (cI, 4, .inl vt_tires))] H := hP
      have hD : va_D A [(ht_copies, .inl (cI, 4, .inl vt_copies)), (ht_pages, .inl (cI, 4, .inl (upd vt_pages a1.toNatClampNeg x6))), (ht, .inr (1, [.ref ht_drops, .ref ht_from, .ref ht_to, .ref ht_tires, .ref ht_copies, .ref ht_pages, .int vt_size])), (ht_drops, .inl (cI, 4, .inl vt_drops)), (ht_from, .inl (cI, 4, .inl vt_from)), (ht_to, .inl (cI, 4, .inl vt_to)), (ht_tires, .inl (cI, 4, .inl vt_tires))] := hD
      have he := Option.some.inj hf
      have hP9 := (hP.sub (ws' := [(ht, .inr (1, [.ref ht_drops, .ref ht_from, .ref ht_to, .ref ht_tires, .ref ht_copies, .ref ht_pages, .int vt_size])), (ht_drops, .inl (cI, 4, .inl vt_drops)), (ht_from, .inl (cI, 4, .inl vt_from)), (ht_to, .inl (cI, 4, .inl vt_to)), (ht_tires, .inl (cI, 4, .inl vt_tires)), (ht_copies, .inl (cI, 4, .inl vt_copies)), (ht_pages, .inl (cI, 4, .inl (upd vt_pages a1.toNatClampNeg x6)))]) [2, 3, 4, 5, 6, 0, 1] rfl)
      have hD9 := (hD.sub (ws' := [(ht, .inr (1, [.ref ht_drops, .ref ht_from, .ref ht_to, .ref ht_tires, .ref ht_copies, .ref ht_pages, .int vt_size])), (ht_drops, .inl (cI, 4, .inl vt_drops)), (ht_from, .inl (cI, 4, .inl vt_from)), (ht_to, .inl (cI, 4, .inl vt_to)), (ht_tires, .inl (cI, 4, .inl vt_tires)), (ht_copies, .inl (cI, 4, .inl vt_copies)), (ht_pages, .inl (cI, 4, .inl (upd vt_pages a1.toNatClampNeg x6)))]) [2, 3, 4, 5, 6, 0, 1] (by decide) rfl)
      exact W.vret hx hb hr (fun t eth hW => ⟨⟨(upd vt_pages a1.toNatClampNeg x6), rfl, he.symm, by rw [eth]; exact hP9, va_K.moved hW.alike hK, hD9⟩, hS.F eth⟩) hS.2.2 dX1_takeDownBy_39
    · replace hf := dg_f c5 hf
      refine lv_aload_n hx hb dX1_takeDownBy_25 rfl (lv_at hl 1 rfl) ?_
      refine va_get (D := (dC, dI)) (ci := 1) (v := .ref ht_pages) (C := RX1) (T := TX1) (N := 7) hx hb hts hinX1 hown hK hP 0 rfl rfl 5 (by decide) hw1 (fun _ h9 => h9) rfl dX1_takeDownBy_26 ?_
      refine lv_iload_n hx hb dX1_takeDownBy_29 rfl (lv_at hl 0 rfl) ?_
      obtain ⟨hi8, hf⟩ := dg_ix hf
      refine va_iald hx hb hK hP 6 0 rfl rfl hi8 dX1_takeDownBy_30 ?_
      refine lv_goto (tgt := 35) hx hb dX1_takeDownBy_31 (by decide) ?_
      obtain ⟨x9, hx9, hf⟩ := dg_bind hf
      have hPc : va_P (dC, dI) vwCl [(ht, .inr (1, [.ref ht_drops, .ref ht_from, .ref ht_to, .ref ht_tires, .ref ht_copies, .ref ht_pages, .int vt_size])), (ht_drops, .inl (cI, 4, .inl vt_drops)), (ht_from, .inl (cI, 4, .inl vt_from)), (ht_to, .inl (cI, 4, .inl vt_to)), (ht_tires, .inl (cI, 4, .inl vt_tires))] s.heap := hP.sub [0, 1, 2, 3, 4] rfl
      have hDc : va_D A [(ht, .inr (1, [.ref ht_drops, .ref ht_from, .ref ht_to, .ref ht_tires, .ref ht_copies, .ref ht_pages, .int vt_size])), (ht_drops, .inl (cI, 4, .inl vt_drops)), (ht_from, .inl (cI, 4, .inl vt_from)), (ht_to, .inl (cI, 4, .inl vt_to)), (ht_tires, .inl (cI, 4, .inl vt_tires))] := hD.sub [0, 1, 2, 3, 4] (by decide) rfl
      have hFc := va_free (wc := [(ht, .inr (1, [.ref ht_drops, .ref ht_from, .ref ht_to, .ref ht_tires, .ref ht_copies, .ref ht_pages, .int vt_size])), (ht_drops, .inl (cI, 4, .inl vt_drops)), (ht_from, .inl (cI, 4, .inl vt_from)), (ht_to, .inl (cI, 4, .inl vt_to)), (ht_tires, .inl (cI, 4, .inl vt_tires))]) hD hS hA [0, 1, 2, 3, 4] rfl
      refine va_calli (va_runV (As := [.int a1, .int (vt_pages ((vt_copies a1.toNatClampNeg) - (1:Int32)).toNatClampNeg)]) (rest := [.int a1, .ref ht_pages]) ⟨hx, hb, hml, hown, hts⟩ (k_X1_pageFrom l dC dI cI cJ cZ s.heap.size ht ht_drops ht_from ht_to ht_tires ht_copies ht_pages a1 (vt_pages ((vt_copies a1.toNatClampNeg) - (1:Int32)).toNatClampNeg) vt_size vt_drops vt_from vt_to vt_tires N x9 hx9) (cwV 2 hts gX1_takeDownBy_X1_pageFrom rfl rfl rfl hd_X1_pageFrom ⟨Nat.le_of_ble_eq_true rfl, Nat.le_of_ble_eq_true rfl⟩) ⟨blind_pc, va_recv hK hPc (ci := 1) (q0 := 0) rfl rfl, pre_pc hPc hK hDc⟩ rfl rfl hl.1 rfl (lv_room (Nat.le_of_ble_eq_true rfl)) dX1_takeDownBy_35 ⟨Nat.zero_le _, Nat.zero_le _⟩) hS (fun q _ h => hFc q h) hFc (fun r u t H1 locs eth hvm hw hB hz1 hk1 hS => ?_)
      obtain ⟨hP1, hK1, hD1⟩ := hB
      rw [eth] at hP1
      subst hw
      obtain ⟨hP, hD⟩ := va_join (wr := [(ht_copies, .inl (cI, 4, .inl vt_copies)), (ht_pages, .inl (cI, 4, .inl vt_pages))]) (w1 := [(ht, .inr (1, [.ref ht_drops, .ref ht_from, .ref ht_to, .ref ht_tires, .ref ht_copies, .ref ht_pages, .int vt_size])), (ht_drops, .inl (cI, 4, .inl vt_drops)), (ht_from, .inl (cI, 4, .inl vt_from)), (ht_to, .inl (cI, 4, .inl vt_to)), (ht_tires, .inl (cI, 4, .inl vt_tires))]) hP hD [0, 1, 2, 3, 4] [5, 6] rfl rfl (by decide) (by decide) hk1 hFc hP1 hD1
      clear hP1 hK1 hD1 hPc hDc hFc hk1 hz1 hvm eth
      generalize H1 = H at hP hS ⊢
      have hP : va_P (dC, dI) vwCl [(ht_copies, .inl (cI, 4, .inl vt_copies)), (ht_pages, .inl (cI, 4, .inl vt_pages)), (ht, .inr (1, [.ref ht_drops, .ref ht_from, .ref ht_to, .ref ht_tires, .ref ht_copies, .ref ht_pages, .int vt_size])), (ht_drops, .inl (cI, 4, .inl vt_drops)), (ht_from, .inl (cI, 4, .inl vt_from)), (ht_to, .inl (cI, 4, .inl vt_to)), (ht_tires, .inl (cI, 4, .inl vt_tires))] H := hP
      have hD : va_D A [(ht_copies, .inl (cI, 4, .inl vt_copies)), (ht_pages, .inl (cI, 4, .inl vt_pages)), (ht, .inr (1, [.ref ht_drops, .ref ht_from, .ref ht_to, .ref ht_tires, .ref ht_copies, .ref ht_pages, .int vt_size])), (ht_drops, .inl (cI, 4, .inl vt_drops)), (ht_from, .inl (cI, 4, .inl vt_from)), (ht_to, .inl (cI, 4, .inl vt_to)), (ht_tires, .inl (cI, 4, .inl vt_tires))] := hD
      obtain ⟨hi10, hf⟩ := dg_ix hf
      refine va_iast hx hb hK hP hD hS 1 0 rfl rfl hi10 dX1_takeDownBy_38 (fun H locs hP hD hS => ?_)
      have hP : va_P (dC, dI) vwCl [(ht_copies, .inl (cI, 4, .inl vt_copies)), (ht_pages, .inl (cI, 4, .inl (upd vt_pages a1.toNatClampNeg x9))), (ht, .inr (1, [.ref ht_drops, .ref ht_from, .ref ht_to, .ref ht_tires, .ref ht_copies, .ref ht_pages, .int vt_size])), (ht_drops, .inl (cI, 4, .inl vt_drops)), (ht_from, .inl (cI, 4, .inl vt_from)), (ht_to, .inl (cI, 4, .inl vt_to)), (ht_tires, .inl (cI, 4, .inl vt_tires))] H := hP
      have hD : va_D A [(ht_copies, .inl (cI, 4, .inl vt_copies)), (ht_pages, .inl (cI, 4, .inl (upd vt_pages a1.toNatClampNeg x9))), (ht, .inr (1, [.ref ht_drops, .ref ht_from, .ref ht_to, .ref ht_tires, .ref ht_copies, .ref ht_pages, .int vt_size])), (ht_drops, .inl (cI, 4, .inl vt_drops)), (ht_from, .inl (cI, 4, .inl vt_from)), (ht_to, .inl (cI, 4, .inl vt_to)), (ht_tires, .inl (cI, 4, .inl vt_tires))] := hD
      have he := Option.some.inj hf
      have hP9 := (hP.sub (ws' := [(ht, .inr (1, [.ref ht_drops, .ref ht_from, .ref ht_to, .ref ht_tires, .ref ht_copies, .ref ht_pages, .int vt_size])), (ht_drops, .inl (cI, 4, .inl vt_drops)), (ht_from, .inl (cI, 4, .inl vt_from)), (ht_to, .inl (cI, 4, .inl vt_to)), (ht_tires, .inl (cI, 4, .inl vt_tires)), (ht_copies, .inl (cI, 4, .inl vt_copies)), (ht_pages, .inl (cI, 4, .inl (upd vt_pages a1.toNatClampNeg x9)))]) [2, 3, 4, 5, 6, 0, 1] rfl)
      have hD9 := (hD.sub (ws' := [(ht, .inr (1, [.ref ht_drops, .ref ht_from, .ref ht_to, .ref ht_tires, .ref ht_copies, .ref ht_pages, .int vt_size])), (ht_drops, .inl (cI, 4, .inl vt_drops)), (ht_from, .inl (cI, 4, .inl vt_from)), (ht_to, .inl (cI, 4, .inl vt_to)), (ht_tires, .inl (cI, 4, .inl vt_tires)), (ht_copies, .inl (cI, 4, .inl vt_copies)), (ht_pages, .inl (cI, 4, .inl (upd vt_pages a1.toNatClampNeg x9)))]) [2, 3, 4, 5, 6, 0, 1] (by decide) rfl)
      exact W.vret hx hb hr (fun t eth hW => ⟨⟨(upd vt_pages a1.toNatClampNeg x9), rfl, he.symm, by rw [eth]; exact hP9, va_K.moved hW.alike hK, hD9⟩, hS.F eth⟩) hS.2.2 dX1_takeDownBy_39
theorem hd_X1_takeDown : yX1_takeDown.cls = RX1 ∧ yX1_takeDown.cls ≠ "java/lang/invoke/MethodHandle" ∧ yX1_takeDown.cls ≠ "java/lang/invoke/VarHandle" ∧ (parseMethodDescriptor yX1_takeDown.desc).map (fun d => d.parameters.length) = some 1 := by decide +kernel
abbrev rm_X1_takeDown : Room := { frames := 4, cells := 0, slots := 0, locals := 96 }
abbrev q_X1_takeDown (dC : Nat → ClassId) (dI : Nat → Nat → Nat) (cI cJ cZ : ClassId) (ht ht_drops ht_from ht_to ht_tires ht_copies ht_pages : Nat) (vt_size : Int32) (vt_drops : Nat → Int32) (vt_from : Nat → Int32) (vt_to : Nat → Int32) (vt_tires : Nat → Int32) (vt_copies : Nat → Int32) (R : (Nat → Int32)) (A : Nat → Prop) : Array Value → State → Outcome → State → Prop := va_Qv (fun (u : (Nat → Int32)) => R = u) (fun (u : (Nat → Int32)) (t : State) => va_P (dC, dI) vwCl [(ht, .inr (1, [.ref ht_drops, .ref ht_from, .ref ht_to, .ref ht_tires, .ref ht_copies, .ref ht_pages, .int vt_size])), (ht_drops, .inl (cI, 4, .inl vt_drops)), (ht_from, .inl (cI, 4, .inl vt_from)), (ht_to, .inl (cI, 4, .inl vt_to)), (ht_tires, .inl (cI, 4, .inl vt_tires)), (ht_copies, .inl (cI, 4, .inl vt_copies)), (ht_pages, .inl (cI, 4, .inl u))] t.heap ∧ va_K (dC, dI) vwCl [(cI, .int), (cJ, .long), (cZ, .boolean)] t ∧ va_D A [(ht, .inr (1, [.ref ht_drops, .ref ht_from, .ref ht_to, .ref ht_tires, .ref ht_copies, .ref ht_pages, .int vt_size])), (ht_drops, .inl (cI, 4, .inl vt_drops)), (ht_from, .inl (cI, 4, .inl vt_from)), (ht_to, .inl (cI, 4, .inl vt_to)), (ht_tires, .inl (cI, 4, .inl vt_tires)), (ht_copies, .inl (cI, 4, .inl vt_copies)), (ht_pages, .inl (cI, 4, .inl u))]) A
set_option maxHeartbeats 4000000 in
set_option maxRecDepth 100000 in
theorem k_X1_takeDown (l : Launch) (dC : Nat → ClassId) (dI : Nat → Nat → Nat) (cI cJ cZ : ClassId) (sz : Nat) (ht ht_drops ht_from ht_to ht_tires ht_copies ht_pages : Nat) (a1 : Int32) (vt_size : Int32) (vt_drops : Nat → Int32) (vt_from : Nat → Int32) (vt_to : Nat → Int32) (vt_tires : Nat → Int32) (vt_copies : Nat → Int32) (vt_pages : Nat → Int32) (N : Nat) (R : (Nat → Int32)) (hf : f_X1_takeDown N a1 vt_size vt_drops vt_from vt_to vt_tires vt_copies vt_pages = some R) : Met l yX1_takeDown wsX1_takeDown (rm_X1_takeDown) (va_Pc [.ref ht, .int a1] (fun U => U.heap.size = sz ∧ va_P (dC, dI) vwCl [(ht, .inr (1, [.ref ht_drops, .ref ht_from, .ref ht_to, .ref ht_tires, .ref ht_copies, .ref ht_pages, .int vt_size])), (ht_drops, .inl (cI, 4, .inl vt_drops)), (ht_from, .inl (cI, 4, .inl vt_from)), (ht_to, .inl (cI, 4, .inl vt_to)), (ht_tires, .inl (cI, 4, .inl vt_tires)), (ht_copies, .inl (cI, 4, .inl vt_copies)), (ht_pages, .inl (cI, 4, .inl vt_pages))] U.heap ∧ va_K (dC, dI) vwCl [(cI, .int), (cJ, .long), (cZ, .boolean)] U ∧ va_D (fun _ => True) [(ht, .inr (1, [.ref ht_drops, .ref ht_from, .ref ht_to, .ref ht_tires, .ref ht_copies, .ref ht_pages, .int vt_size])), (ht_drops, .inl (cI, 4, .inl vt_drops)), (ht_from, .inl (cI, 4, .inl vt_from)), (ht_to, .inl (cI, 4, .inl vt_to)), (ht_tires, .inl (cI, 4, .inl vt_tires)), (ht_copies, .inl (cI, 4, .inl vt_copies)), (ht_pages, .inl (cI, 4, .inl vt_pages))])) (q_X1_takeDown dC dI cI cJ cZ ht ht_drops ht_from ht_to ht_tires ht_copies ht_pages vt_size vt_drops vt_from vt_to vt_tires vt_copies R (va_A [(ht, .inr (1, [.ref ht_drops, .ref ht_from, .ref ht_to, .ref ht_tires, .ref ht_copies, .ref ht_pages, .int vt_size])), (ht_drops, .inl (cI, 4, .inl vt_drops)), (ht_from, .inl (cI, 4, .inl vt_from)), (ht_to, .inl (cI, 4, .inl vt_to)), (ht_tires, .inl (cI, 4, .inl vt_tires)), (ht_copies, .inl (cI, 4, .inl vt_copies)), (ht_pages, .inl (cI, 4, .inl vt_pages))] sz)) 0 0 (va_A [(ht, .inr (1, [.ref ht_drops, .ref ht_from, .ref ht_to, .ref ht_tires, .ref ht_copies, .ref ht_pages, .int vt_size])), (ht_drops, .inl (cI, 4, .inl vt_drops)), (ht_from, .inl (cI, 4, .inl vt_from)), (ht_to, .inl (cI, 4, .inl vt_to)), (ht_tires, .inl (cI, 4, .inl vt_tires)), (ht_copies, .inl (cI, 4, .inl vt_copies)), (ht_pages, .inl (cI, 4, .inl vt_pages))] sz) := by
  refine Met.ofW (cc := cX1_takeDown) (maxL := 3) (ret := none) (by decide) rfl ?_
  intro p e s m args below meth c s₁ B hml hv
  obtain ⟨rfl, hsz, hP, hK, hD0⟩ := hv
  have hx := B.exec
  have hb := B.bytes
  have hr := B.returns
  have hts := atoms_spec (ws := wsX1_takeDown) B.pre
  have hown : s.vm.findClass RX1 = some m.cls := findClass_of_methodNamed B.named
  have hlocks := B.notSynchronized
  clear B
  subst hsz
  have hw0 := hts (.fieldLink RX1 30 "ShorthandCourt$Bench" "size" "I") (by decide +kernel)
  have hinX1 : ∀ w ∈ u_ws RX1 TX1 7, w ∈ wsX1_takeDown := by decide +kernel
  have hD := hD0.self (sz := s.heap.size)
  clear hD0
  generalize hAe : va_A [(ht, .inr (1, [.ref ht_drops, .ref ht_from, .ref ht_to, .ref ht_tires, .ref ht_copies, .ref ht_pages, .int vt_size])), (ht_drops, .inl (cI, 4, .inl vt_drops)), (ht_from, .inl (cI, 4, .inl vt_from)), (ht_to, .inl (cI, 4, .inl vt_to)), (ht_tires, .inl (cI, 4, .inl vt_tires)), (ht_copies, .inl (cI, 4, .inl vt_copies)), (ht_pages, .inl (cI, 4, .inl vt_pages))] s.heap.size = A at hD ⊢
  have hA : ∀ q : Nat, s.heap.size ≤ q → A q := fun q h => by rw [← hAe]; exact Or.inr h
  clear hAe
  have hS : va_S A s.heap s.heap [] := va_S.rf
  have hl := lv_entry ([.ref ht, .int a1]) (n := 3) (Nat.le_of_ble_eq_true rfl)
  rw [lg_entry_eq]
  generalize (lg_sl ([.ref ht, .int a1]) ++ List.replicate (3 - (lg_sl ([.ref ht, .int a1])).length) Slot.unset).toArray = ls at hl ⊢
  have hl : lv_has ls 3 [(0, .ref ht), (1, .int a1)] := hl
  unfold f_X1_takeDown at hf
  refine lv_iconst (v := 0) hx hb dX1_takeDown_0 (by decide) ?_
  refine lv_istore_n (lv' := [(2, .int (0:Int32)), (0, .ref ht), (1, .int a1)]) hx hb dX1_takeDown_1 rfl hl (by decide) rfl (fun ls hl => ?_)
  have ex2 : ∀ (z2_2 : Int32) (zvt_pages_2 : (Nat → Int32)) (H : Heap) (locs : List Loc) (ls : Array Slot), va_P (dC, dI) vwCl [(ht, .inr (1, [.ref ht_drops, .ref ht_from, .ref ht_to, .ref ht_tires, .ref ht_copies, .ref ht_pages, .int vt_size])), (ht_drops, .inl (cI, 4, .inl vt_drops)), (ht_from, .inl (cI, 4, .inl vt_from)), (ht_to, .inl (cI, 4, .inl vt_to)), (ht_tires, .inl (cI, 4, .inl vt_tires)), (ht_copies, .inl (cI, 4, .inl vt_copies)), (ht_pages, .inl (cI, 4, .inl zvt_pages_2))] H → va_D A [(ht, .inr (1, [.ref ht_drops, .ref ht_from, .ref ht_to, .ref ht_tires, .ref ht_copies, .ref ht_pages, .int vt_size])), (ht_drops, .inl (cI, 4, .inl vt_drops)), (ht_from, .inl (cI, 4, .inl vt_from)), (ht_to, .inl (cI, 4, .inl vt_to)), (ht_tires, .inl (cI, 4, .inl vt_tires)), (ht_copies, .inl (cI, 4, .inl vt_copies)), (ht_pages, .inl (cI, 4, .inl zvt_pages_2))] → va_S A s.heap H locs → lv_has ls 3 [(2, .int z2_2), (0, .ref ht), (1, .int a1)] → (some zvt_pages_2) = some R → W p l e (rm_X1_takeDown) s m ([.ref ht, .int a1] : List Value).toArray below meth c H locs 0 0 (MQ below (q_X1_takeDown dC dI cI cJ cZ ht ht_drops ht_from ht_to ht_tires ht_copies ht_pages vt_size vt_drops vt_from vt_to vt_tires vt_copies R A) ([.ref ht, .int a1] : List Value).toArray s 0 0 A) (F0 m 22 ls []) := by
    intro z2_2 zvt_pages_2 H locs ls hP hD hS hl hf
    have he := Option.some.inj hf
    have hP9 := hP
    have hD9 := hD
    exact W.vret hx hb hr (fun t eth hW => ⟨⟨zvt_pages_2, rfl, he.symm, by rw [eth]; exact hP9, va_K.moved hW.alike hK, hD9⟩, hS.F eth⟩) hS.2.2 dX1_takeDown_22
  have lp2 : ∀ (n2 : Nat) (y2_2 : Int32) (yvt_pages_2 : (Nat → Int32)) (H : Heap) (locs : List Loc) (ls : Array Slot), va_P (dC, dI) vwCl [(ht, .inr (1, [.ref ht_drops, .ref ht_from, .ref ht_to, .ref ht_tires, .ref ht_copies, .ref ht_pages, .int vt_size])), (ht_drops, .inl (cI, 4, .inl vt_drops)), (ht_from, .inl (cI, 4, .inl vt_from)), (ht_to, .inl (cI, 4, .inl vt_to)), (ht_tires, .inl (cI, 4, .inl vt_tires)), (ht_copies, .inl (cI, 4, .inl vt_copies)), (ht_pages, .inl (cI, 4, .inl yvt_pages_2))] H → va_D A [(ht, .inr (1, [.ref ht_drops, .ref ht_from, .ref ht_to, .ref ht_tires, .ref ht_copies, .ref ht_pages, .int vt_size])), (ht_drops, .inl (cI, 4, .inl vt_drops)), (ht_from, .inl (cI, 4, .inl vt_from)), (ht_to, .inl (cI, 4, .inl vt_to)), (ht_tires, .inl (cI, 4, .inl vt_tires)), (ht_copies, .inl (cI, 4, .inl vt_copies)), (ht_pages, .inl (cI, 4, .inl yvt_pages_2))] → va_S A s.heap H locs → lv_has ls 3 [(2, .int y2_2), (0, .ref ht), (1, .int a1)] → f_X1_takeDown_2 N a1 vt_size vt_drops vt_from vt_to vt_tires vt_copies (fun z2_2 zvt_pages_2 => some zvt_pages_2) n2 y2_2 yvt_pages_2 = some R → W p l e (rm_X1_takeDown) s m ([.ref ht, .int a1] : List Value).toArray below meth c H locs 0 0 (MQ below (q_X1_takeDown dC dI cI cJ cZ ht ht_drops ht_from ht_to ht_tires ht_copies ht_pages vt_size vt_drops vt_from vt_to vt_tires vt_copies R A) ([.ref ht, .int a1] : List Value).toArray s 0 0 A) (F0 m 2 ls []) := by
    intro n2
    induction n2 with
    | zero => intro y2_2 yvt_pages_2 H locs ls hP hD hS hl hf; rw [f_X1_takeDown_2] at hf; cases hf
    | succ n2 ih2 =>
      intro y2_2 yvt_pages_2 H locs ls hP hD hS hl hf
      rw [f_X1_takeDown_2] at hf
      refine lv_iload_n hx hb dX1_takeDown_2 rfl (lv_at hl 0 rfl) ?_
      refine lv_aload_n hx hb dX1_takeDown_3 rfl (lv_at hl 1 rfl) ?_
      refine va_get (D := (dC, dI)) (ci := 1) (v := .int vt_size) (C := RX1) (T := TX1) (N := 7) hx hb hts hinX1 hown hK hP 0 rfl rfl 6 (by decide) hw0 (fun _ h9 => h9) rfl dX1_takeDown_4 ?_
      refine lv_icmp_ge (tgt := 22) hx hb dX1_takeDown_7 (by decide) (fun c1 => ?_) (fun c1 => ?_)
      · replace hf := dg_t c1 hf
        exact ex2 y2_2 yvt_pages_2 _ _ _ hP hD hS (lv_sub hl [0, 1, 2] rfl) hf
      · replace hf := dg_f c1 hf
        refine lv_aload_n hx hb dX1_takeDown_10 rfl (lv_at hl 1 rfl) ?_
        refine lv_iload_n hx hb dX1_takeDown_11 rfl (lv_at hl 0 rfl) ?_
        refine lv_iload_n hx hb dX1_takeDown_12 rfl (lv_at hl 2 rfl) ?_
        obtain ⟨x2, hx2, hf⟩ := dg_bind hf
        have hPc : va_P (dC, dI) vwCl [(ht, .inr (1, [.ref ht_drops, .ref ht_from, .ref ht_to, .ref ht_tires, .ref ht_copies, .ref ht_pages, .int vt_size])), (ht_drops, .inl (cI, 4, .inl vt_drops)), (ht_from, .inl (cI, 4, .inl vt_from)), (ht_to, .inl (cI, 4, .inl vt_to)), (ht_tires, .inl (cI, 4, .inl vt_tires)), (ht_copies, .inl (cI, 4, .inl vt_copies)), (ht_pages, .inl (cI, 4, .inl yvt_pages_2))] H := hP.sub [0, 1, 2, 3, 4, 5, 6] rfl
        have hDc : va_D A [(ht, .inr (1, [.ref ht_drops, .ref ht_from, .ref ht_to, .ref ht_tires, .ref ht_copies, .ref ht_pages, .int vt_size])), (ht_drops, .inl (cI, 4, .inl vt_drops)), (ht_from, .inl (cI, 4, .inl vt_from)), (ht_to, .inl (cI, 4, .inl vt_to)), (ht_tires, .inl (cI, 4, .inl vt_tires)), (ht_copies, .inl (cI, 4, .inl vt_copies)), (ht_pages, .inl (cI, 4, .inl yvt_pages_2))] := hD.sub [0, 1, 2, 3, 4, 5, 6] (by decide) rfl
        have hFc := va_free (wc := [(ht, .inr (1, [.ref ht_drops, .ref ht_from, .ref ht_to, .ref ht_tires, .ref ht_copies, .ref ht_pages, .int vt_size])), (ht_drops, .inl (cI, 4, .inl vt_drops)), (ht_from, .inl (cI, 4, .inl vt_from)), (ht_to, .inl (cI, 4, .inl vt_to)), (ht_tires, .inl (cI, 4, .inl vt_tires)), (ht_copies, .inl (cI, 4, .inl vt_copies)), (ht_pages, .inl (cI, 4, .inl yvt_pages_2))]) hD hS hA [0, 1, 2, 3, 4, 5, 6] rfl
        refine va_callv (va_runV (As := [.int y2_2, .int a1]) (rest := []) ⟨hx, hb, hml, hown, hts⟩ (k_X1_takeDownBy l dC dI cI cJ cZ H.size ht ht_drops ht_from ht_to ht_tires ht_copies ht_pages y2_2 a1 vt_size vt_drops vt_from vt_to vt_tires vt_copies yvt_pages_2 N x2 hx2) (cwV 2 hts gX1_takeDown_X1_takeDownBy rfl rfl rfl hd_X1_takeDownBy ⟨Nat.le_of_ble_eq_true rfl, Nat.le_of_ble_eq_true rfl⟩) ⟨blind_pc, va_recv hK hPc (ci := 1) (q0 := 0) rfl rfl, pre_pc hPc hK hDc⟩ rfl rfl hl.1 rfl (lv_room (Nat.le_of_ble_eq_true rfl)) dX1_takeDown_13 ⟨Nat.zero_le _, Nat.zero_le _⟩) hS (fun q _ h => hFc q h) hFc (fun u t H1 locs eth hvm hw hB hz1 hk1 hS => ?_)
        obtain ⟨hP1, hK1, hD1⟩ := hB
        rw [eth] at hP1
        subst hw
        obtain ⟨hP, hD⟩ := va_join (wr := []) (w1 := [(ht, .inr (1, [.ref ht_drops, .ref ht_from, .ref ht_to, .ref ht_tires, .ref ht_copies, .ref ht_pages, .int vt_size])), (ht_drops, .inl (cI, 4, .inl vt_drops)), (ht_from, .inl (cI, 4, .inl vt_from)), (ht_to, .inl (cI, 4, .inl vt_to)), (ht_tires, .inl (cI, 4, .inl vt_tires)), (ht_copies, .inl (cI, 4, .inl vt_copies)), (ht_pages, .inl (cI, 4, .inl x2))]) hP hD [0, 1, 2, 3, 4, 5, 6] [] rfl rfl (by decide) (by decide) hk1 hFc hP1 hD1
        clear hP1 hK1 hD1 hPc hDc hFc hk1 hz1 hvm eth
        generalize H1 = H at hP hS ⊢
        have hP : va_P (dC, dI) vwCl [(ht, .inr (1, [.ref ht_drops, .ref ht_from, .ref ht_to, .ref ht_tires, .ref ht_copies, .ref ht_pages, .int vt_size])), (ht_drops, .inl (cI, 4, .inl vt_drops)), (ht_from, .inl (cI, 4, .inl vt_from)), (ht_to, .inl (cI, 4, .inl vt_to)), (ht_tires, .inl (cI, 4, .inl vt_tires)), (ht_copies, .inl (cI, 4, .inl vt_copies)), (ht_pages, .inl (cI, 4, .inl x2))] H := hP
        have hD : va_D A [(ht, .inr (1, [.ref ht_drops, .ref ht_from, .ref ht_to, .ref ht_tires, .ref ht_copies, .ref ht_pages, .int vt_size])), (ht_drops, .inl (cI, 4, .inl vt_drops)), (ht_from, .inl (cI, 4, .inl vt_from)), (ht_to, .inl (cI, 4, .inl vt_to)), (ht_tires, .inl (cI, 4, .inl vt_tires)), (ht_copies, .inl (cI, 4, .inl vt_copies)), (ht_pages, .inl (cI, 4, .inl x2))] := hD
        refine lv_iinc (v := (y2_2 + (1:Int32))) (lv' := [(2, .int (y2_2 + (1:Int32))), (0, .ref ht), (1, .int a1)]) hx hb dX1_takeDown_16 hl (k := 0) rfl (by first | rfl | decide) (by decide) rfl (fun ls hl => ?_)
        refine lv_goto (tgt := 2) hx hb dX1_takeDown_19 (by decide) ?_
        exact ih2 (y2_2 + (1:Int32)) x2 _ _ _ hP hD hS (lv_sub hl [0, 1, 2] rfl) hf
  exact lp2 N (0:Int32) vt_pages _ _ _ hP hD hS hl hf
theorem hd_X1_hangsOn : yX1_hangsOn.cls = RX1 ∧ yX1_hangsOn.cls ≠ "java/lang/invoke/MethodHandle" ∧ yX1_hangsOn.cls ≠ "java/lang/invoke/VarHandle" ∧ (parseMethodDescriptor yX1_hangsOn.desc).map (fun d => d.parameters.length) = some 2 := by decide +kernel
abbrev rm_X1_hangsOn : Room := { frames := 1, cells := 0, slots := 0, locals := 21 }
abbrev q_X1_hangsOn (dC : Nat → ClassId) (dI : Nat → Nat → Nat) (cI cJ cZ : ClassId) (ht ht_drops ht_from ht_to ht_tires ht_copies ht_pages : Nat) (vt_size : Int32) (vt_copies : Nat → Int32) (R : Int32) (A : Nat → Prop) : Array Value → State → Outcome → State → Prop := va_Qi (fun (r : Int32) (_ : Unit) => R = r) (fun (u : Unit) (t : State) => va_P (dC, dI) vwCl [(ht, .inr (1, [.ref ht_drops, .ref ht_from, .ref ht_to, .ref ht_tires, .ref ht_copies, .ref ht_pages, .int vt_size])), (ht_copies, .inl (cI, 4, .inl vt_copies))] t.heap ∧ va_K (dC, dI) vwCl [(cI, .int), (cJ, .long), (cZ, .boolean)] t ∧ va_D A [(ht, .inr (1, [.ref ht_drops, .ref ht_from, .ref ht_to, .ref ht_tires, .ref ht_copies, .ref ht_pages, .int vt_size])), (ht_copies, .inl (cI, 4, .inl vt_copies))]) A
set_option maxHeartbeats 4000000 in
set_option maxRecDepth 100000 in
theorem k_X1_hangsOn (l : Launch) (dC : Nat → ClassId) (dI : Nat → Nat → Nat) (cI cJ cZ : ClassId) (sz : Nat) (ht ht_drops ht_from ht_to ht_tires ht_copies ht_pages : Nat) (a1 : Int32) (a2 : Int32) (vt_size : Int32) (vt_copies : Nat → Int32) (N : Nat) (R : Int32) (hf : f_X1_hangsOn N a1 a2 vt_size vt_copies = some R) : Met l yX1_hangsOn wsX1_hangsOn (rm_X1_hangsOn) (va_Pc [.ref ht, .int a1, .int a2] (fun U => U.heap.size = sz ∧ va_P (dC, dI) vwCl [(ht, .inr (1, [.ref ht_drops, .ref ht_from, .ref ht_to, .ref ht_tires, .ref ht_copies, .ref ht_pages, .int vt_size])), (ht_copies, .inl (cI, 4, .inl vt_copies))] U.heap ∧ va_K (dC, dI) vwCl [(cI, .int), (cJ, .long), (cZ, .boolean)] U ∧ va_D (fun _ => True) [(ht, .inr (1, [.ref ht_drops, .ref ht_from, .ref ht_to, .ref ht_tires, .ref ht_copies, .ref ht_pages, .int vt_size])), (ht_copies, .inl (cI, 4, .inl vt_copies))])) (q_X1_hangsOn dC dI cI cJ cZ ht ht_drops ht_from ht_to ht_tires ht_copies ht_pages vt_size vt_copies R (va_A [(ht, .inr (1, [.ref ht_drops, .ref ht_from, .ref ht_to, .ref ht_tires, .ref ht_copies, .ref ht_pages, .int vt_size])), (ht_copies, .inl (cI, 4, .inl vt_copies))] sz)) 0 0 (va_A [(ht, .inr (1, [.ref ht_drops, .ref ht_from, .ref ht_to, .ref ht_tires, .ref ht_copies, .ref ht_pages, .int vt_size])), (ht_copies, .inl (cI, 4, .inl vt_copies))] sz) := by
  refine Met.ofW (cc := cX1_hangsOn) (maxL := 5) (ret := (some .boolean)) (by decide) rfl ?_
  intro p e s m args below meth c s₁ B hml hv
  obtain ⟨rfl, hsz, hP, hK, hD0⟩ := hv
  have hx := B.exec
  have hb := B.bytes
  have hr := B.returns
  have hts := atoms_spec (ws := wsX1_hangsOn) B.pre
  have hown : s.vm.findClass RX1 = some m.cls := findClass_of_methodNamed B.named
  have hlocks := B.notSynchronized
  clear B
  subst hsz
  have hw0 := hts (.fieldLink RX1 24 "ShorthandCourt$Bench" "copies" "[I") (by decide +kernel)
  have hinX1 : ∀ w ∈ u_ws RX1 TX1 7, w ∈ wsX1_hangsOn := by decide +kernel
  have hD := hD0.self (sz := s.heap.size)
  clear hD0
  generalize hAe : va_A [(ht, .inr (1, [.ref ht_drops, .ref ht_from, .ref ht_to, .ref ht_tires, .ref ht_copies, .ref ht_pages, .int vt_size])), (ht_copies, .inl (cI, 4, .inl vt_copies))] s.heap.size = A at hD ⊢
  have hA : ∀ q : Nat, s.heap.size ≤ q → A q := fun q h => by rw [← hAe]; exact Or.inr h
  clear hAe
  have hS : va_S A s.heap s.heap [] := va_S.rf
  have hl := lv_entry ([.ref ht, .int a1, .int a2]) (n := 5) (Nat.le_of_ble_eq_true rfl)
  rw [lg_entry_eq]
  generalize (lg_sl ([.ref ht, .int a1, .int a2]) ++ List.replicate (5 - (lg_sl ([.ref ht, .int a1, .int a2])).length) Slot.unset).toArray = ls at hl ⊢
  have hl : lv_has ls 5 [(0, .ref ht), (1, .int a1), (2, .int a2)] := hl
  unfold f_X1_hangsOn at hf
  refine lv_iload_n hx hb dX1_hangsOn_0 rfl (lv_at hl 1 rfl) ?_
  refine lv_istore_n (lv' := [(3, .int a1), (0, .ref ht), (1, .int a1), (2, .int a2)]) hx hb dX1_hangsOn_1 rfl hl (by decide) rfl (fun ls hl => ?_)
  refine lv_iconst (v := 0) hx hb dX1_hangsOn_2 (by decide) ?_
  refine lv_istore (lv' := [(4, .int (0:Int32)), (3, .int a1), (0, .ref ht), (1, .int a1), (2, .int a2)]) hx hb dX1_hangsOn_3 hl (by decide) rfl (fun ls hl => ?_)
  have ex5 : ∀ (z3_5 : Int32) (z4_5 : Int32) (H : Heap) (locs : List Loc) (ls : Array Slot), va_P (dC, dI) vwCl [(ht, .inr (1, [.ref ht_drops, .ref ht_from, .ref ht_to, .ref ht_tires, .ref ht_copies, .ref ht_pages, .int vt_size])), (ht_copies, .inl (cI, 4, .inl vt_copies))] H → va_D A [(ht, .inr (1, [.ref ht_drops, .ref ht_from, .ref ht_to, .ref ht_tires, .ref ht_copies, .ref ht_pages, .int vt_size])), (ht_copies, .inl (cI, 4, .inl vt_copies))] → va_S A s.heap H locs → lv_has ls 5 [(4, .int z4_5), (3, .int z3_5), (0, .ref ht), (1, .int a1), (2, .int a2)] → (some (0:Int32)) = some R → W p l e (rm_X1_hangsOn) s m ([.ref ht, .int a1, .int a2] : List Value).toArray below meth c H locs 0 0 (MQ below (q_X1_hangsOn dC dI cI cJ cZ ht ht_drops ht_from ht_to ht_tires ht_copies ht_pages vt_size vt_copies R A) ([.ref ht, .int a1, .int a2] : List Value).toArray s 0 0 A) (F0 m 41 ls []) := by
    intro z3_5 z4_5 H locs ls hP hD hS hl hf
    refine lv_iconst (v := 0) hx hb dX1_hangsOn_41 (by decide) ?_
    have he := Option.some.inj hf
    have hP9 := hP
    have hD9 := hD
    exact W.zret (v := (0:Int32)) (ty := .boolean) hx hb hr (by decide) (fun t eth hW => ⟨⟨(0:Int32), (), rfl, he.symm, by rw [eth]; exact hP9, va_K.moved hW.alike hK, hD9⟩, hS.F eth⟩) hS.2.2 dX1_hangsOn_42
  have lp5 : ∀ (n5 : Nat) (y3_5 : Int32) (y4_5 : Int32) (H : Heap) (locs : List Loc) (ls : Array Slot), va_P (dC, dI) vwCl [(ht, .inr (1, [.ref ht_drops, .ref ht_from, .ref ht_to, .ref ht_tires, .ref ht_copies, .ref ht_pages, .int vt_size])), (ht_copies, .inl (cI, 4, .inl vt_copies))] H → va_D A [(ht, .inr (1, [.ref ht_drops, .ref ht_from, .ref ht_to, .ref ht_tires, .ref ht_copies, .ref ht_pages, .int vt_size])), (ht_copies, .inl (cI, 4, .inl vt_copies))] → va_S A s.heap H locs → lv_has ls 5 [(4, .int y4_5), (3, .int y3_5), (0, .ref ht), (1, .int a1), (2, .int a2)] → f_X1_hangsOn_5 N a2 vt_size vt_copies (fun z3_5 z4_5 => some (0:Int32)) n5 y3_5 y4_5 = some R → W p l e (rm_X1_hangsOn) s m ([.ref ht, .int a1, .int a2] : List Value).toArray below meth c H locs 0 0 (MQ below (q_X1_hangsOn dC dI cI cJ cZ ht ht_drops ht_from ht_to ht_tires ht_copies ht_pages vt_size vt_copies R A) ([.ref ht, .int a1, .int a2] : List Value).toArray s 0 0 A) (F0 m 5 ls []) := by
    intro n5
    induction n5 with
    | zero => intro y3_5 y4_5 H locs ls hP hD hS hl hf; rw [f_X1_hangsOn_5] at hf; cases hf
    | succ n5 ih5 =>
      intro y3_5 y4_5 H locs ls hP hD hS hl hf
      rw [f_X1_hangsOn_5] at hf
      refine lv_iload hx hb dX1_hangsOn_5 (lv_at hl 0 rfl) ?_
      refine lv_iconst (v := 4) hx hb dX1_hangsOn_7 (by decide) ?_
      refine lv_icmp_ge (tgt := 41) hx hb dX1_hangsOn_8 (by decide) (fun c1 => ?_) (fun c1 => ?_)
      · replace hf := dg_t c1 hf
        exact ex5 y3_5 y4_5 _ _ _ hP hD hS (lv_sub hl [0, 1, 2, 3, 4] rfl) hf
      · replace hf := dg_f c1 hf
        refine lv_aload_n hx hb dX1_hangsOn_11 rfl (lv_at hl 2 rfl) ?_
        refine lv_iload_n hx hb dX1_hangsOn_12 rfl (lv_at hl 1 rfl) ?_
        obtain ⟨x2, hx2, hf⟩ := dg_bind hf
        have hPc : va_P (dC, dI) vwCl [(ht, .inr (1, [.ref ht_drops, .ref ht_from, .ref ht_to, .ref ht_tires, .ref ht_copies, .ref ht_pages, .int vt_size]))] H := hP.sub [0] rfl
        have hDc : va_D A [(ht, .inr (1, [.ref ht_drops, .ref ht_from, .ref ht_to, .ref ht_tires, .ref ht_copies, .ref ht_pages, .int vt_size]))] := hD.sub [0] (by decide) rfl
        have hFc := va_free (wc := [(ht, .inr (1, [.ref ht_drops, .ref ht_from, .ref ht_to, .ref ht_tires, .ref ht_copies, .ref ht_pages, .int vt_size]))]) hD hS hA [0] rfl
        refine va_calli (va_runV (As := [.int y3_5]) (rest := []) ⟨hx, hb, hml, hown, hts⟩ (k_X1_has l dC dI cI cJ cZ H.size ht ht_drops ht_from ht_to ht_tires ht_copies ht_pages y3_5 vt_size N x2 hx2) (cwV 1 hts gX1_hangsOn_X1_has rfl rfl rfl hd_X1_has ⟨Nat.le_of_ble_eq_true rfl, Nat.le_of_ble_eq_true rfl⟩) ⟨blind_pc, va_recv hK hPc (ci := 1) (q0 := 0) rfl rfl, pre_pc hPc hK hDc⟩ rfl rfl hl.1 rfl (lv_room (Nat.le_of_ble_eq_true rfl)) dX1_hangsOn_13 ⟨Nat.zero_le _, Nat.zero_le _⟩) hS (fun q _ h => hFc q h) hFc (fun r u t H1 locs eth hvm hw hB hz1 hk1 hS => ?_)
        obtain ⟨hP1, hK1, hD1⟩ := hB
        rw [eth] at hP1
        subst hw
        obtain ⟨hP, hD⟩ := va_join (wr := [(ht_copies, .inl (cI, 4, .inl vt_copies))]) (w1 := [(ht, .inr (1, [.ref ht_drops, .ref ht_from, .ref ht_to, .ref ht_tires, .ref ht_copies, .ref ht_pages, .int vt_size]))]) hP hD [0] [1] rfl rfl (by decide) (by decide) hk1 hFc hP1 hD1
        clear hP1 hK1 hD1 hPc hDc hFc hk1 hz1 hvm eth
        generalize H1 = H at hP hS ⊢
        have hP : va_P (dC, dI) vwCl [(ht_copies, .inl (cI, 4, .inl vt_copies)), (ht, .inr (1, [.ref ht_drops, .ref ht_from, .ref ht_to, .ref ht_tires, .ref ht_copies, .ref ht_pages, .int vt_size]))] H := hP
        have hD : va_D A [(ht_copies, .inl (cI, 4, .inl vt_copies)), (ht, .inr (1, [.ref ht_drops, .ref ht_from, .ref ht_to, .ref ht_tires, .ref ht_copies, .ref ht_pages, .int vt_size]))] := hD
        refine lv_if_eq (tgt := 41) hx hb dX1_hangsOn_16 (by decide) (fun c3 => ?_) (fun c3 => ?_)
        · replace hf := dg_t c3 hf
          exact ex5 y3_5 y4_5 _ _ _ (hP.sub (ws' := [(ht, .inr (1, [.ref ht_drops, .ref ht_from, .ref ht_to, .ref ht_tires, .ref ht_copies, .ref ht_pages, .int vt_size])), (ht_copies, .inl (cI, 4, .inl vt_copies))]) [1, 0] rfl) (hD.sub (ws' := [(ht, .inr (1, [.ref ht_drops, .ref ht_from, .ref ht_to, .ref ht_tires, .ref ht_copies, .ref ht_pages, .int vt_size])), (ht_copies, .inl (cI, 4, .inl vt_copies))]) [1, 0] (by decide) rfl) hS (lv_sub hl [0, 1, 2, 3, 4] rfl) hf
        · replace hf := dg_f c3 hf
          refine lv_iload_n hx hb dX1_hangsOn_19 rfl (lv_at hl 1 rfl) ?_
          refine lv_iload_n hx hb dX1_hangsOn_20 rfl (lv_at hl 4 rfl) ?_
          refine lv_icmp_ne (tgt := 26) hx hb dX1_hangsOn_21 (by decide) (fun c4 => ?_) (fun c4 => ?_)
          · replace hf := dg_f c4 hf
            refine lv_aload_n hx hb dX1_hangsOn_26 rfl (lv_at hl 2 rfl) ?_
            refine va_get (D := (dC, dI)) (ci := 1) (v := .ref ht_copies) (C := RX1) (T := TX1) (N := 7) hx hb hts hinX1 hown hK hP 1 rfl rfl 4 (by decide) hw0 (fun _ h9 => h9) rfl dX1_hangsOn_27 ?_
            refine lv_iload_n hx hb dX1_hangsOn_30 rfl (lv_at hl 1 rfl) ?_
            obtain ⟨hi5, hf⟩ := dg_ix hf
            refine va_iald hx hb hK hP 0 0 rfl rfl hi5 dX1_hangsOn_31 ?_
            refine lv_iconst (v := 1) hx hb dX1_hangsOn_32 (by decide) ?_
            refine lv_isub hx hb dX1_hangsOn_33 ?_
            refine lv_istore_n (lv' := [(3, .int ((vt_copies y3_5.toNatClampNeg) - (1:Int32))), (4, .int y4_5), (0, .ref ht), (1, .int a1), (2, .int a2)]) hx hb dX1_hangsOn_34 rfl hl (by decide) rfl (fun ls hl => ?_)
            refine lv_iinc (v := (y4_5 + (1:Int32))) (lv' := [(4, .int (y4_5 + (1:Int32))), (3, .int ((vt_copies y3_5.toNatClampNeg) - (1:Int32))), (0, .ref ht), (1, .int a1), (2, .int a2)]) hx hb dX1_hangsOn_35 hl (k := 1) rfl (by first | rfl | decide) (by decide) rfl (fun ls hl => ?_)
            refine lv_goto (tgt := 5) hx hb dX1_hangsOn_38 (by decide) ?_
            exact ih5 ((vt_copies y3_5.toNatClampNeg) - (1:Int32)) (y4_5 + (1:Int32)) _ _ _ (hP.sub (ws' := [(ht, .inr (1, [.ref ht_drops, .ref ht_from, .ref ht_to, .ref ht_tires, .ref ht_copies, .ref ht_pages, .int vt_size])), (ht_copies, .inl (cI, 4, .inl vt_copies))]) [1, 0] rfl) (hD.sub (ws' := [(ht, .inr (1, [.ref ht_drops, .ref ht_from, .ref ht_to, .ref ht_tires, .ref ht_copies, .ref ht_pages, .int vt_size])), (ht_copies, .inl (cI, 4, .inl vt_copies))]) [1, 0] (by decide) rfl) hS (lv_sub hl [0, 1, 2, 3, 4] rfl) hf
          · replace hf := dg_t c4 hf
            refine lv_iconst (v := 1) hx hb dX1_hangsOn_24 (by decide) ?_
            have he := Option.some.inj hf
            have hP9 := (hP.sub (ws' := [(ht, .inr (1, [.ref ht_drops, .ref ht_from, .ref ht_to, .ref ht_tires, .ref ht_copies, .ref ht_pages, .int vt_size])), (ht_copies, .inl (cI, 4, .inl vt_copies))]) [1, 0] rfl)
            have hD9 := (hD.sub (ws' := [(ht, .inr (1, [.ref ht_drops, .ref ht_from, .ref ht_to, .ref ht_tires, .ref ht_copies, .ref ht_pages, .int vt_size])), (ht_copies, .inl (cI, 4, .inl vt_copies))]) [1, 0] (by decide) rfl)
            exact W.zret (v := (1:Int32)) (ty := .boolean) hx hb hr (by decide) (fun t eth hW => ⟨⟨(1:Int32), (), rfl, he.symm, by rw [eth]; exact hP9, va_K.moved hW.alike hK, hD9⟩, hS.F eth⟩) hS.2.2 dX1_hangsOn_25
  exact lp5 N a1 (0:Int32) _ _ _ hP hD hS hl hf
theorem hd_X1_wordsOnPages : yX1_wordsOnPages.cls = RX1 ∧ yX1_wordsOnPages.cls ≠ "java/lang/invoke/MethodHandle" ∧ yX1_wordsOnPages.cls ≠ "java/lang/invoke/VarHandle" ∧ (parseMethodDescriptor yX1_wordsOnPages.desc).map (fun d => d.parameters.length) = some 0 := by decide +kernel
abbrev rm_X1_wordsOnPages : Room := { frames := 1, cells := 0, slots := 0, locals := 22 }
abbrev q_X1_wordsOnPages (dC : Nat → ClassId) (dI : Nat → Nat → Nat) (cI cJ cZ : ClassId) (ht ht_drops ht_from ht_to ht_tires ht_copies ht_pages : Nat) (vt_size : Int32) (vt_pages : Nat → Int32) (R : Int32) (A : Nat → Prop) : Array Value → State → Outcome → State → Prop := va_Qi (fun (r : Int32) (_ : Unit) => R = r) (fun (u : Unit) (t : State) => va_P (dC, dI) vwCl [(ht, .inr (1, [.ref ht_drops, .ref ht_from, .ref ht_to, .ref ht_tires, .ref ht_copies, .ref ht_pages, .int vt_size])), (ht_pages, .inl (cI, 4, .inl vt_pages))] t.heap ∧ va_K (dC, dI) vwCl [(cI, .int), (cJ, .long), (cZ, .boolean)] t ∧ va_D A [(ht, .inr (1, [.ref ht_drops, .ref ht_from, .ref ht_to, .ref ht_tires, .ref ht_copies, .ref ht_pages, .int vt_size])), (ht_pages, .inl (cI, 4, .inl vt_pages))]) A
set_option maxHeartbeats 4000000 in
set_option maxRecDepth 100000 in
theorem k_X1_wordsOnPages (l : Launch) (dC : Nat → ClassId) (dI : Nat → Nat → Nat) (cI cJ cZ : ClassId) (sz : Nat) (ht ht_drops ht_from ht_to ht_tires ht_copies ht_pages : Nat) (vt_size : Int32) (vt_pages : Nat → Int32) (N : Nat) (R : Int32) (hf : f_X1_wordsOnPages N vt_size vt_pages = some R) : Met l yX1_wordsOnPages wsX1_wordsOnPages (rm_X1_wordsOnPages) (va_Pc [.ref ht] (fun U => U.heap.size = sz ∧ va_P (dC, dI) vwCl [(ht, .inr (1, [.ref ht_drops, .ref ht_from, .ref ht_to, .ref ht_tires, .ref ht_copies, .ref ht_pages, .int vt_size])), (ht_pages, .inl (cI, 4, .inl vt_pages))] U.heap ∧ va_K (dC, dI) vwCl [(cI, .int), (cJ, .long), (cZ, .boolean)] U ∧ va_D (fun _ => True) [(ht, .inr (1, [.ref ht_drops, .ref ht_from, .ref ht_to, .ref ht_tires, .ref ht_copies, .ref ht_pages, .int vt_size])), (ht_pages, .inl (cI, 4, .inl vt_pages))])) (q_X1_wordsOnPages dC dI cI cJ cZ ht ht_drops ht_from ht_to ht_tires ht_copies ht_pages vt_size vt_pages R (va_A [(ht, .inr (1, [.ref ht_drops, .ref ht_from, .ref ht_to, .ref ht_tires, .ref ht_copies, .ref ht_pages, .int vt_size])), (ht_pages, .inl (cI, 4, .inl vt_pages))] sz)) 0 0 (va_A [(ht, .inr (1, [.ref ht_drops, .ref ht_from, .ref ht_to, .ref ht_tires, .ref ht_copies, .ref ht_pages, .int vt_size])), (ht_pages, .inl (cI, 4, .inl vt_pages))] sz) := by
  refine Met.ofW (cc := cX1_wordsOnPages) (maxL := 3) (ret := (some .int)) (by decide) rfl ?_
  intro p e s m args below meth c s₁ B hml hv
  obtain ⟨rfl, hsz, hP, hK, hD0⟩ := hv
  have hx := B.exec
  have hb := B.bytes
  have hr := B.returns
  have hts := atoms_spec (ws := wsX1_wordsOnPages) B.pre
  have hown : s.vm.findClass RX1 = some m.cls := findClass_of_methodNamed B.named
  have hlocks := B.notSynchronized
  clear B
  subst hsz
  have hw0 := hts (.fieldLink RX1 30 "ShorthandCourt$Bench" "size" "I") (by decide +kernel)
  have hw1 := hts (.fieldLink RX1 27 "ShorthandCourt$Bench" "pages" "[I") (by decide +kernel)
  have hinX1 : ∀ w ∈ u_ws RX1 TX1 7, w ∈ wsX1_wordsOnPages := by decide +kernel
  have hD := hD0.self (sz := s.heap.size)
  clear hD0
  generalize hAe : va_A [(ht, .inr (1, [.ref ht_drops, .ref ht_from, .ref ht_to, .ref ht_tires, .ref ht_copies, .ref ht_pages, .int vt_size])), (ht_pages, .inl (cI, 4, .inl vt_pages))] s.heap.size = A at hD ⊢
  have hA : ∀ q : Nat, s.heap.size ≤ q → A q := fun q h => by rw [← hAe]; exact Or.inr h
  clear hAe
  have hS : va_S A s.heap s.heap [] := va_S.rf
  have hl := lv_entry ([.ref ht]) (n := 3) (Nat.le_of_ble_eq_true rfl)
  rw [lg_entry_eq]
  generalize (lg_sl ([.ref ht]) ++ List.replicate (3 - (lg_sl ([.ref ht])).length) Slot.unset).toArray = ls at hl ⊢
  have hl : lv_has ls 3 [(0, .ref ht)] := hl
  unfold f_X1_wordsOnPages at hf
  refine lv_iconst (v := 0) hx hb dX1_wordsOnPages_0 (by decide) ?_
  refine lv_istore_n (lv' := [(1, .int (0:Int32)), (0, .ref ht)]) hx hb dX1_wordsOnPages_1 rfl hl (by decide) rfl (fun ls hl => ?_)
  refine lv_iconst (v := 0) hx hb dX1_wordsOnPages_2 (by decide) ?_
  refine lv_istore_n (lv' := [(2, .int (0:Int32)), (1, .int (0:Int32)), (0, .ref ht)]) hx hb dX1_wordsOnPages_3 rfl hl (by decide) rfl (fun ls hl => ?_)
  have ex4 : ∀ (z1_4 : Int32) (z2_4 : Int32) (H : Heap) (locs : List Loc) (ls : Array Slot), va_P (dC, dI) vwCl [(ht, .inr (1, [.ref ht_drops, .ref ht_from, .ref ht_to, .ref ht_tires, .ref ht_copies, .ref ht_pages, .int vt_size])), (ht_pages, .inl (cI, 4, .inl vt_pages))] H → va_D A [(ht, .inr (1, [.ref ht_drops, .ref ht_from, .ref ht_to, .ref ht_tires, .ref ht_copies, .ref ht_pages, .int vt_size])), (ht_pages, .inl (cI, 4, .inl vt_pages))] → va_S A s.heap H locs → lv_has ls 3 [(2, .int z2_4), (1, .int z1_4), (0, .ref ht)] → (some z1_4) = some R → W p l e (rm_X1_wordsOnPages) s m ([.ref ht] : List Value).toArray below meth c H locs 0 0 (MQ below (q_X1_wordsOnPages dC dI cI cJ cZ ht ht_drops ht_from ht_to ht_tires ht_copies ht_pages vt_size vt_pages R A) ([.ref ht] : List Value).toArray s 0 0 A) (F0 m 30 ls []) := by
    intro z1_4 z2_4 H locs ls hP hD hS hl hf
    refine lv_iload_n hx hb dX1_wordsOnPages_30 rfl (lv_at hl 1 rfl) ?_
    have he := Option.some.inj hf
    have hP9 := hP
    have hD9 := hD
    exact W.iret (v := z1_4) hx hb hr (fun t eth hW => ⟨⟨z1_4, (), rfl, he.symm, by rw [eth]; exact hP9, va_K.moved hW.alike hK, hD9⟩, hS.F eth⟩) hS.2.2 dX1_wordsOnPages_31
  have lp4 : ∀ (n4 : Nat) (y1_4 : Int32) (y2_4 : Int32) (H : Heap) (locs : List Loc) (ls : Array Slot), va_P (dC, dI) vwCl [(ht, .inr (1, [.ref ht_drops, .ref ht_from, .ref ht_to, .ref ht_tires, .ref ht_copies, .ref ht_pages, .int vt_size])), (ht_pages, .inl (cI, 4, .inl vt_pages))] H → va_D A [(ht, .inr (1, [.ref ht_drops, .ref ht_from, .ref ht_to, .ref ht_tires, .ref ht_copies, .ref ht_pages, .int vt_size])), (ht_pages, .inl (cI, 4, .inl vt_pages))] → va_S A s.heap H locs → lv_has ls 3 [(2, .int y2_4), (1, .int y1_4), (0, .ref ht)] → f_X1_wordsOnPages_4 N vt_size vt_pages (fun z1_4 z2_4 => some z1_4) n4 y1_4 y2_4 = some R → W p l e (rm_X1_wordsOnPages) s m ([.ref ht] : List Value).toArray below meth c H locs 0 0 (MQ below (q_X1_wordsOnPages dC dI cI cJ cZ ht ht_drops ht_from ht_to ht_tires ht_copies ht_pages vt_size vt_pages R A) ([.ref ht] : List Value).toArray s 0 0 A) (F0 m 4 ls []) := by
    intro n4
    induction n4 with
    | zero => intro y1_4 y2_4 H locs ls hP hD hS hl hf; rw [f_X1_wordsOnPages_4] at hf; cases hf
    | succ n4 ih4 =>
      intro y1_4 y2_4 H locs ls hP hD hS hl hf
      rw [f_X1_wordsOnPages_4] at hf
      refine lv_iload_n hx hb dX1_wordsOnPages_4 rfl (lv_at hl 0 rfl) ?_
      refine lv_aload_n hx hb dX1_wordsOnPages_5 rfl (lv_at hl 2 rfl) ?_
      refine va_get (D := (dC, dI)) (ci := 1) (v := .int vt_size) (C := RX1) (T := TX1) (N := 7) hx hb hts hinX1 hown hK hP 0 rfl rfl 6 (by decide) hw0 (fun _ h9 => h9) rfl dX1_wordsOnPages_6 ?_
      refine lv_icmp_ge (tgt := 30) hx hb dX1_wordsOnPages_9 (by decide) (fun c1 => ?_) (fun c1 => ?_)
      · replace hf := dg_t c1 hf
        exact ex4 y1_4 y2_4 _ _ _ hP hD hS (lv_sub hl [0, 1, 2] rfl) hf
      · replace hf := dg_f c1 hf
        refine lv_iload_n hx hb dX1_wordsOnPages_12 rfl (lv_at hl 1 rfl) ?_
        refine lv_aload_n hx hb dX1_wordsOnPages_13 rfl (lv_at hl 2 rfl) ?_
        refine va_get (D := (dC, dI)) (ci := 1) (v := .ref ht_pages) (C := RX1) (T := TX1) (N := 7) hx hb hts hinX1 hown hK hP 0 rfl rfl 5 (by decide) hw1 (fun _ h9 => h9) rfl dX1_wordsOnPages_14 ?_
        refine lv_iload_n hx hb dX1_wordsOnPages_17 rfl (lv_at hl 0 rfl) ?_
        obtain ⟨hi2, hf⟩ := dg_ix hf
        refine va_iald hx hb hK hP 1 0 rfl rfl hi2 dX1_wordsOnPages_18 ?_
        obtain ⟨x3, hx3, hf⟩ := dg_bind hf
        have hPc : va_P (dC, dI) vwCl [] H := hP.sub [] rfl
        have hDc : va_D A [] := hD.sub [] (by decide) rfl
        have hFc := va_free (wc := []) hD hS hA [] rfl
        refine va_calli (va_runS (As := [.int (vt_pages y2_4.toNatClampNeg)]) (rest := [.int y1_4]) ⟨hx, hb, hml, hown, hts⟩ (k_X4_wordsIn l dC dI cI cJ cZ H.size (vt_pages y2_4.toNatClampNeg) N x3 hx3) (va_cwS 1 hts gX1_wordsOnPages_X4_wordsIn rfl rfl rfl hd_X4_wordsIn ⟨Nat.le_of_ble_eq_true rfl, Nat.le_of_ble_eq_true rfl⟩) ⟨blind_pc, pre_pc hPc hK hDc⟩ rfl rfl hl.1 rfl (lv_room (Nat.le_of_ble_eq_true rfl)) dX1_wordsOnPages_19 ⟨Nat.zero_le _, Nat.zero_le _⟩) hS (fun q _ h => hFc q h) hFc (fun r u t H1 locs eth hvm hw hB hz1 hk1 hS => ?_)
        obtain ⟨hP1, hK1, hD1⟩ := hB
        rw [eth] at hP1
        subst hw
        obtain ⟨hP, hD⟩ := va_join (wr := [(ht, .inr (1, [.ref ht_drops, .ref ht_from, .ref ht_to, .ref ht_tires, .ref ht_copies, .ref ht_pages, .int vt_size])), (ht_pages, .inl (cI, 4, .inl vt_pages))]) (w1 := []) hP hD [] [0, 1] rfl rfl (by decide) (by decide) hk1 hFc hP1 hD1
        clear hP1 hK1 hD1 hPc hDc hFc hk1 hz1 hvm eth
        generalize H1 = H at hP hS ⊢
        have hP : va_P (dC, dI) vwCl [(ht, .inr (1, [.ref ht_drops, .ref ht_from, .ref ht_to, .ref ht_tires, .ref ht_copies, .ref ht_pages, .int vt_size])), (ht_pages, .inl (cI, 4, .inl vt_pages))] H := hP
        have hD : va_D A [(ht, .inr (1, [.ref ht_drops, .ref ht_from, .ref ht_to, .ref ht_tires, .ref ht_copies, .ref ht_pages, .int vt_size])), (ht_pages, .inl (cI, 4, .inl vt_pages))] := hD
        refine lv_iadd hx hb dX1_wordsOnPages_22 ?_
        refine lv_istore_n (lv' := [(1, .int (y1_4 + x3)), (2, .int y2_4), (0, .ref ht)]) hx hb dX1_wordsOnPages_23 rfl hl (by decide) rfl (fun ls hl => ?_)
        refine lv_iinc (v := (y2_4 + (1:Int32))) (lv' := [(2, .int (y2_4 + (1:Int32))), (1, .int (y1_4 + x3)), (0, .ref ht)]) hx hb dX1_wordsOnPages_24 hl (k := 1) rfl (by first | rfl | decide) (by decide) rfl (fun ls hl => ?_)
        refine lv_goto (tgt := 4) hx hb dX1_wordsOnPages_27 (by decide) ?_
        exact ih4 (y1_4 + x3) (y2_4 + (1:Int32)) _ _ _ hP hD hS (lv_sub hl [0, 1, 2] rfl) hf
  exact lp4 N (0:Int32) (0:Int32) _ _ _ hP hD hS hl hf
theorem hd_X1_pagesOf : yX1_pagesOf.cls = RX1 ∧ yX1_pagesOf.cls ≠ "java/lang/invoke/MethodHandle" ∧ yX1_pagesOf.cls ≠ "java/lang/invoke/VarHandle" ∧ (parseMethodDescriptor yX1_pagesOf.desc).map (fun d => d.parameters.length) = some 1 := by decide +kernel
abbrev rm_X1_pagesOf : Room := { frames := 0, cells := 0, slots := 0, locals := 0 }
abbrev q_X1_pagesOf (dC : Nat → ClassId) (dI : Nat → Nat → Nat) (cI cJ cZ : ClassId) (ht ht_drops ht_from ht_to ht_tires ht_copies ht_pages : Nat) (vt_size : Int32) (vt_pages : Nat → Int32) (R : Int64) (A : Nat → Prop) : Array Value → State → Outcome → State → Prop := va_Ql (fun (r : Int64) (_ : Unit) => R = r) (fun (u : Unit) (t : State) => va_P (dC, dI) vwCl [(ht, .inr (1, [.ref ht_drops, .ref ht_from, .ref ht_to, .ref ht_tires, .ref ht_copies, .ref ht_pages, .int vt_size])), (ht_pages, .inl (cI, 4, .inl vt_pages))] t.heap ∧ va_K (dC, dI) vwCl [(cI, .int), (cJ, .long), (cZ, .boolean)] t ∧ va_D A [(ht, .inr (1, [.ref ht_drops, .ref ht_from, .ref ht_to, .ref ht_tires, .ref ht_copies, .ref ht_pages, .int vt_size])), (ht_pages, .inl (cI, 4, .inl vt_pages))]) A
set_option maxHeartbeats 4000000 in
set_option maxRecDepth 100000 in
theorem k_X1_pagesOf (l : Launch) (dC : Nat → ClassId) (dI : Nat → Nat → Nat) (cI cJ cZ : ClassId) (sz : Nat) (ht ht_drops ht_from ht_to ht_tires ht_copies ht_pages : Nat) (a1 : Int32) (vt_size : Int32) (vt_pages : Nat → Int32) (N : Nat) (R : Int64) (hf : f_X1_pagesOf N a1 vt_size vt_pages = some R) : Met l yX1_pagesOf wsX1_pagesOf (rm_X1_pagesOf) (va_Pc [.ref ht, .int a1] (fun U => U.heap.size = sz ∧ va_P (dC, dI) vwCl [(ht, .inr (1, [.ref ht_drops, .ref ht_from, .ref ht_to, .ref ht_tires, .ref ht_copies, .ref ht_pages, .int vt_size])), (ht_pages, .inl (cI, 4, .inl vt_pages))] U.heap ∧ va_K (dC, dI) vwCl [(cI, .int), (cJ, .long), (cZ, .boolean)] U ∧ va_D (fun _ => True) [(ht, .inr (1, [.ref ht_drops, .ref ht_from, .ref ht_to, .ref ht_tires, .ref ht_copies, .ref ht_pages, .int vt_size])), (ht_pages, .inl (cI, 4, .inl vt_pages))])) (q_X1_pagesOf dC dI cI cJ cZ ht ht_drops ht_from ht_to ht_tires ht_copies ht_pages vt_size vt_pages R (va_A [(ht, .inr (1, [.ref ht_drops, .ref ht_from, .ref ht_to, .ref ht_tires, .ref ht_copies, .ref ht_pages, .int vt_size])), (ht_pages, .inl (cI, 4, .inl vt_pages))] sz)) 0 0 (va_A [(ht, .inr (1, [.ref ht_drops, .ref ht_from, .ref ht_to, .ref ht_tires, .ref ht_copies, .ref ht_pages, .int vt_size])), (ht_pages, .inl (cI, 4, .inl vt_pages))] sz) := by
  refine Met.ofW (cc := cX1_pagesOf) (maxL := 5) (ret := (some .long)) (by decide) rfl ?_
  intro p e s m args below meth c s₁ B hml hv
  obtain ⟨rfl, hsz, hP, hK, hD0⟩ := hv
  have hx := B.exec
  have hb := B.bytes
  have hr := B.returns
  have hts := atoms_spec (ws := wsX1_pagesOf) B.pre
  have hown : s.vm.findClass RX1 = some m.cls := findClass_of_methodNamed B.named
  have hlocks := B.notSynchronized
  clear B
  subst hsz
  have hw0 := hts (.fieldLink RX1 30 "ShorthandCourt$Bench" "size" "I") (by decide +kernel)
  have hw1 := hts (.fieldLink RX1 27 "ShorthandCourt$Bench" "pages" "[I") (by decide +kernel)
  have hinX1 : ∀ w ∈ u_ws RX1 TX1 7, w ∈ wsX1_pagesOf := by decide +kernel
  have hD := hD0.self (sz := s.heap.size)
  clear hD0
  generalize hAe : va_A [(ht, .inr (1, [.ref ht_drops, .ref ht_from, .ref ht_to, .ref ht_tires, .ref ht_copies, .ref ht_pages, .int vt_size])), (ht_pages, .inl (cI, 4, .inl vt_pages))] s.heap.size = A at hD ⊢
  have hA : ∀ q : Nat, s.heap.size ≤ q → A q := fun q h => by rw [← hAe]; exact Or.inr h
  clear hAe
  have hS : va_S A s.heap s.heap [] := va_S.rf
  have hl := lv_entry ([.ref ht, .int a1]) (n := 5) (Nat.le_of_ble_eq_true rfl)
  rw [lg_entry_eq]
  generalize (lg_sl ([.ref ht, .int a1]) ++ List.replicate (5 - (lg_sl ([.ref ht, .int a1])).length) Slot.unset).toArray = ls at hl ⊢
  have hl : lv_has ls 5 [(0, .ref ht), (1, .int a1)] := hl
  unfold f_X1_pagesOf at hf
  refine lv_lconst (v := 1) hx hb dX1_pagesOf_0 (by decide) ?_
  refine lv_lstore_n (lv' := [(2, .long (1:Int64)), (0, .ref ht), (1, .int a1)]) hx hb dX1_pagesOf_1 rfl hl (by decide) rfl (fun ls hl => ?_)
  refine lv_iconst (v := 0) hx hb dX1_pagesOf_2 (by decide) ?_
  refine lv_istore (lv' := [(4, .int (0:Int32)), (2, .long (1:Int64)), (0, .ref ht), (1, .int a1)]) hx hb dX1_pagesOf_3 hl (by decide) rfl (fun ls hl => ?_)
  have ex5 : ∀ (z2_5 : Int64) (z4_5 : Int32) (H : Heap) (locs : List Loc) (ls : Array Slot), va_P (dC, dI) vwCl [(ht, .inr (1, [.ref ht_drops, .ref ht_from, .ref ht_to, .ref ht_tires, .ref ht_copies, .ref ht_pages, .int vt_size])), (ht_pages, .inl (cI, 4, .inl vt_pages))] H → va_D A [(ht, .inr (1, [.ref ht_drops, .ref ht_from, .ref ht_to, .ref ht_tires, .ref ht_copies, .ref ht_pages, .int vt_size])), (ht_pages, .inl (cI, 4, .inl vt_pages))] → va_S A s.heap H locs → lv_has ls 5 [(4, .int z4_5), (2, .long z2_5), (0, .ref ht), (1, .int a1)] → (some z2_5) = some R → W p l e (rm_X1_pagesOf) s m ([.ref ht, .int a1] : List Value).toArray below meth c H locs 0 0 (MQ below (q_X1_pagesOf dC dI cI cJ cZ ht ht_drops ht_from ht_to ht_tires ht_copies ht_pages vt_size vt_pages R A) ([.ref ht, .int a1] : List Value).toArray s 0 0 A) (F0 m 43 ls []) := by
    intro z2_5 z4_5 H locs ls hP hD hS hl hf
    refine lv_lload_n hx hb dX1_pagesOf_43 rfl (lv_at hl 1 rfl) ?_
    have he := Option.some.inj hf
    have hP9 := hP
    have hD9 := hD
    exact W.lret (v := z2_5) hx hb hr (fun t eth hW => ⟨⟨z2_5, (), rfl, he.symm, by rw [eth]; exact hP9, va_K.moved hW.alike hK, hD9⟩, hS.F eth⟩) hS.2.2 dX1_pagesOf_44
  have lp5 : ∀ (n5 : Nat) (y2_5 : Int64) (y4_5 : Int32) (H : Heap) (locs : List Loc) (ls : Array Slot), va_P (dC, dI) vwCl [(ht, .inr (1, [.ref ht_drops, .ref ht_from, .ref ht_to, .ref ht_tires, .ref ht_copies, .ref ht_pages, .int vt_size])), (ht_pages, .inl (cI, 4, .inl vt_pages))] H → va_D A [(ht, .inr (1, [.ref ht_drops, .ref ht_from, .ref ht_to, .ref ht_tires, .ref ht_copies, .ref ht_pages, .int vt_size])), (ht_pages, .inl (cI, 4, .inl vt_pages))] → va_S A s.heap H locs → lv_has ls 5 [(4, .int y4_5), (2, .long y2_5), (0, .ref ht), (1, .int a1)] → f_X1_pagesOf_5 N a1 vt_size vt_pages (fun z2_5 z4_5 => some z2_5) n5 y2_5 y4_5 = some R → W p l e (rm_X1_pagesOf) s m ([.ref ht, .int a1] : List Value).toArray below meth c H locs 0 0 (MQ below (q_X1_pagesOf dC dI cI cJ cZ ht ht_drops ht_from ht_to ht_tires ht_copies ht_pages vt_size vt_pages R A) ([.ref ht, .int a1] : List Value).toArray s 0 0 A) (F0 m 5 ls []) := by
    intro n5
    induction n5 with
    | zero => intro y2_5 y4_5 H locs ls hP hD hS hl hf; rw [f_X1_pagesOf_5] at hf; cases hf
    | succ n5 ih5 =>
      intro y2_5 y4_5 H locs ls hP hD hS hl hf
      rw [f_X1_pagesOf_5] at hf
      refine lv_iload hx hb dX1_pagesOf_5 (lv_at hl 0 rfl) ?_
      refine lv_aload_n hx hb dX1_pagesOf_7 rfl (lv_at hl 2 rfl) ?_
      refine va_get (D := (dC, dI)) (ci := 1) (v := .int vt_size) (C := RX1) (T := TX1) (N := 7) hx hb hts hinX1 hown hK hP 0 rfl rfl 6 (by decide) hw0 (fun _ h9 => h9) rfl dX1_pagesOf_8 ?_
      refine lv_icmp_ge (tgt := 43) hx hb dX1_pagesOf_11 (by decide) (fun c1 => ?_) (fun c1 => ?_)
      · replace hf := dg_t c1 hf
        exact ex5 y2_5 y4_5 _ _ _ hP hD hS (lv_sub hl [0, 1, 2, 3] rfl) hf
      · replace hf := dg_f c1 hf
        refine lv_iload_n hx hb dX1_pagesOf_14 rfl (lv_at hl 3 rfl) ?_
        refine lv_iload hx hb dX1_pagesOf_15 (lv_at hl 0 rfl) ?_
        refine lv_ishr hx hb dX1_pagesOf_17 ?_
        refine lv_iconst (v := 1) hx hb dX1_pagesOf_18 (by decide) ?_
        refine lv_iand hx hb dX1_pagesOf_19 ?_
        refine lv_if_eq (tgt := 37) hx hb dX1_pagesOf_20 (by decide) (fun c2 => ?_) (fun c2 => ?_)
        · replace hf := dg_t c2 hf
          refine lv_iinc (v := (y4_5 + (1:Int32))) (lv' := [(4, .int (y4_5 + (1:Int32))), (2, .long y2_5), (0, .ref ht), (1, .int a1)]) hx hb dX1_pagesOf_37 hl (k := 0) rfl (by first | rfl | decide) (by decide) rfl (fun ls hl => ?_)
          refine lv_goto (tgt := 5) hx hb dX1_pagesOf_40 (by decide) ?_
          exact ih5 y2_5 (y4_5 + (1:Int32)) _ _ _ hP hD hS (lv_sub hl [0, 1, 2, 3] rfl) hf
        · replace hf := dg_f c2 hf
          refine lv_lload_n hx hb dX1_pagesOf_23 rfl (lv_at hl 1 rfl) ?_
          refine lv_bipush (v := 13) hx hb dX1_pagesOf_24 (by decide) ?_
          refine lv_lshl hx hb dX1_pagesOf_26 rfl ?_
          refine lv_aload_n hx hb dX1_pagesOf_27 rfl (lv_at hl 2 rfl) ?_
          refine va_get (D := (dC, dI)) (ci := 1) (v := .ref ht_pages) (C := RX1) (T := TX1) (N := 7) hx hb hts hinX1 hown hK hP 0 rfl rfl 5 (by decide) hw1 (fun _ h9 => h9) rfl dX1_pagesOf_28 ?_
          refine lv_iload hx hb dX1_pagesOf_31 (lv_at hl 0 rfl) ?_
          obtain ⟨hi3, hf⟩ := dg_ix hf
          refine va_iald hx hb hK hP 1 0 rfl rfl hi3 dX1_pagesOf_33 ?_
          refine lv_i2l hx hb dX1_pagesOf_34 rfl ?_
          refine lv_lor hx hb dX1_pagesOf_35 ?_
          refine lv_lstore_n (lv' := [(2, .long ((y2_5 <<< ((13:Int32).toInt64 &&& 63)) ||| (vt_pages y4_5.toNatClampNeg).toInt64)), (4, .int y4_5), (0, .ref ht), (1, .int a1)]) hx hb dX1_pagesOf_36 rfl hl (by decide) rfl (fun ls hl => ?_)
          refine lv_iinc (v := (y4_5 + (1:Int32))) (lv' := [(4, .int (y4_5 + (1:Int32))), (2, .long ((y2_5 <<< ((13:Int32).toInt64 &&& 63)) ||| (vt_pages y4_5.toNatClampNeg).toInt64)), (0, .ref ht), (1, .int a1)]) hx hb dX1_pagesOf_37 hl (k := 1) rfl (by first | rfl | decide) (by decide) rfl (fun ls hl => ?_)
          refine lv_goto (tgt := 5) hx hb dX1_pagesOf_40 (by decide) ?_
          exact ih5 ((y2_5 <<< ((13:Int32).toInt64 &&& 63)) ||| (vt_pages y4_5.toNatClampNeg).toInt64) (y4_5 + (1:Int32)) _ _ _ hP hD hS (lv_sub hl [0, 1, 2, 3] rfl) hf
  exact lp5 N (1:Int64) (0:Int32) _ _ _ hP hD hS hl hf
theorem hd_X1_habitsNow : yX1_habitsNow.cls = RX1 ∧ yX1_habitsNow.cls ≠ "java/lang/invoke/MethodHandle" ∧ yX1_habitsNow.cls ≠ "java/lang/invoke/VarHandle" ∧ (parseMethodDescriptor yX1_habitsNow.desc).map (fun d => d.parameters.length) = some 0 := by decide +kernel
abbrev rm_X1_habitsNow : Room := { frames := 0, cells := 0, slots := 0, locals := 0 }
abbrev q_X1_habitsNow (dC : Nat → ClassId) (dI : Nat → Nat → Nat) (cI cJ cZ : ClassId) (ht ht_drops ht_from ht_to ht_tires ht_copies ht_pages : Nat) (vt_size : Int32) (vt_from : Nat → Int32) (vt_to : Nat → Int32) (vt_copies : Nat → Int32) (R : Int64) (A : Nat → Prop) : Array Value → State → Outcome → State → Prop := va_Ql (fun (r : Int64) (_ : Unit) => R = r) (fun (u : Unit) (t : State) => va_P (dC, dI) vwCl [(ht, .inr (1, [.ref ht_drops, .ref ht_from, .ref ht_to, .ref ht_tires, .ref ht_copies, .ref ht_pages, .int vt_size])), (ht_from, .inl (cI, 4, .inl vt_from)), (ht_to, .inl (cI, 4, .inl vt_to)), (ht_copies, .inl (cI, 4, .inl vt_copies))] t.heap ∧ va_K (dC, dI) vwCl [(cI, .int), (cJ, .long), (cZ, .boolean)] t ∧ va_D A [(ht, .inr (1, [.ref ht_drops, .ref ht_from, .ref ht_to, .ref ht_tires, .ref ht_copies, .ref ht_pages, .int vt_size])), (ht_from, .inl (cI, 4, .inl vt_from)), (ht_to, .inl (cI, 4, .inl vt_to)), (ht_copies, .inl (cI, 4, .inl vt_copies))]) A
set_option maxHeartbeats 4000000 in
set_option maxRecDepth 100000 in
theorem k_X1_habitsNow (l : Launch) (dC : Nat → ClassId) (dI : Nat → Nat → Nat) (cI cJ cZ : ClassId) (sz : Nat) (ht ht_drops ht_from ht_to ht_tires ht_copies ht_pages : Nat) (vt_size : Int32) (vt_from : Nat → Int32) (vt_to : Nat → Int32) (vt_copies : Nat → Int32) (N : Nat) (R : Int64) (hf : f_X1_habitsNow N vt_from vt_to vt_copies = some R) : Met l yX1_habitsNow wsX1_habitsNow (rm_X1_habitsNow) (va_Pc [.ref ht] (fun U => U.heap.size = sz ∧ va_P (dC, dI) vwCl [(ht, .inr (1, [.ref ht_drops, .ref ht_from, .ref ht_to, .ref ht_tires, .ref ht_copies, .ref ht_pages, .int vt_size])), (ht_from, .inl (cI, 4, .inl vt_from)), (ht_to, .inl (cI, 4, .inl vt_to)), (ht_copies, .inl (cI, 4, .inl vt_copies))] U.heap ∧ va_K (dC, dI) vwCl [(cI, .int), (cJ, .long), (cZ, .boolean)] U ∧ va_D (fun _ => True) [(ht, .inr (1, [.ref ht_drops, .ref ht_from, .ref ht_to, .ref ht_tires, .ref ht_copies, .ref ht_pages, .int vt_size])), (ht_from, .inl (cI, 4, .inl vt_from)), (ht_to, .inl (cI, 4, .inl vt_to)), (ht_copies, .inl (cI, 4, .inl vt_copies))])) (q_X1_habitsNow dC dI cI cJ cZ ht ht_drops ht_from ht_to ht_tires ht_copies ht_pages vt_size vt_from vt_to vt_copies R (va_A [(ht, .inr (1, [.ref ht_drops, .ref ht_from, .ref ht_to, .ref ht_tires, .ref ht_copies, .ref ht_pages, .int vt_size])), (ht_from, .inl (cI, 4, .inl vt_from)), (ht_to, .inl (cI, 4, .inl vt_to)), (ht_copies, .inl (cI, 4, .inl vt_copies))] sz)) 0 0 (va_A [(ht, .inr (1, [.ref ht_drops, .ref ht_from, .ref ht_to, .ref ht_tires, .ref ht_copies, .ref ht_pages, .int vt_size])), (ht_from, .inl (cI, 4, .inl vt_from)), (ht_to, .inl (cI, 4, .inl vt_to)), (ht_copies, .inl (cI, 4, .inl vt_copies))] sz) := by
  refine Met.ofW (cc := cX1_habitsNow) (maxL := 4) (ret := (some .long)) (by decide) rfl ?_
  intro p e s m args below meth c s₁ B hml hv
  obtain ⟨rfl, hsz, hP, hK, hD0⟩ := hv
  have hx := B.exec
  have hb := B.bytes
  have hr := B.returns
  have hts := atoms_spec (ws := wsX1_habitsNow) B.pre
  have hown : s.vm.findClass RX1 = some m.cls := findClass_of_methodNamed B.named
  have hlocks := B.notSynchronized
  clear B
  subst hsz
  have hw0 := hts (.fieldLink RX1 15 "ShorthandCourt$Bench" "from" "[I") (by decide +kernel)
  have hw1 := hts (.fieldLink RX1 18 "ShorthandCourt$Bench" "to" "[I") (by decide +kernel)
  have hw2 := hts (.fieldLink RX1 24 "ShorthandCourt$Bench" "copies" "[I") (by decide +kernel)
  have hinX1 : ∀ w ∈ u_ws RX1 TX1 7, w ∈ wsX1_habitsNow := by decide +kernel
  have hD := hD0.self (sz := s.heap.size)
  clear hD0
  generalize hAe : va_A [(ht, .inr (1, [.ref ht_drops, .ref ht_from, .ref ht_to, .ref ht_tires, .ref ht_copies, .ref ht_pages, .int vt_size])), (ht_from, .inl (cI, 4, .inl vt_from)), (ht_to, .inl (cI, 4, .inl vt_to)), (ht_copies, .inl (cI, 4, .inl vt_copies))] s.heap.size = A at hD ⊢
  have hA : ∀ q : Nat, s.heap.size ≤ q → A q := fun q h => by rw [← hAe]; exact Or.inr h
  clear hAe
  have hS : va_S A s.heap s.heap [] := va_S.rf
  have hl := lv_entry ([.ref ht]) (n := 4) (Nat.le_of_ble_eq_true rfl)
  rw [lg_entry_eq]
  generalize (lg_sl ([.ref ht]) ++ List.replicate (4 - (lg_sl ([.ref ht])).length) Slot.unset).toArray = ls at hl ⊢
  have hl : lv_has ls 4 [(0, .ref ht)] := hl
  unfold f_X1_habitsNow at hf
  refine lv_lconst (v := 0) hx hb dX1_habitsNow_0 (by decide) ?_
  refine lv_lstore_n (lv' := [(1, .long (0:Int64)), (0, .ref ht)]) hx hb dX1_habitsNow_1 rfl hl (by decide) rfl (fun ls hl => ?_)
  refine lv_iconst (v := 3) hx hb dX1_habitsNow_2 (by decide) ?_
  refine lv_istore_n (lv' := [(3, .int (3:Int32)), (1, .long (0:Int64)), (0, .ref ht)]) hx hb dX1_habitsNow_3 rfl hl (by decide) rfl (fun ls hl => ?_)
  have ex4 : ∀ (z1_4 : Int64) (z3_4 : Int32) (H : Heap) (locs : List Loc) (ls : Array Slot), va_P (dC, dI) vwCl [(ht, .inr (1, [.ref ht_drops, .ref ht_from, .ref ht_to, .ref ht_tires, .ref ht_copies, .ref ht_pages, .int vt_size])), (ht_from, .inl (cI, 4, .inl vt_from)), (ht_to, .inl (cI, 4, .inl vt_to)), (ht_copies, .inl (cI, 4, .inl vt_copies))] H → va_D A [(ht, .inr (1, [.ref ht_drops, .ref ht_from, .ref ht_to, .ref ht_tires, .ref ht_copies, .ref ht_pages, .int vt_size])), (ht_from, .inl (cI, 4, .inl vt_from)), (ht_to, .inl (cI, 4, .inl vt_to)), (ht_copies, .inl (cI, 4, .inl vt_copies))] → va_S A s.heap H locs → lv_has ls 4 [(3, .int z3_4), (1, .long z1_4), (0, .ref ht)] → (some z1_4) = some R → W p l e (rm_X1_habitsNow) s m ([.ref ht] : List Value).toArray below meth c H locs 0 0 (MQ below (q_X1_habitsNow dC dI cI cJ cZ ht ht_drops ht_from ht_to ht_tires ht_copies ht_pages vt_size vt_from vt_to vt_copies R A) ([.ref ht] : List Value).toArray s 0 0 A) (F0 m 48 ls []) := by
    intro z1_4 z3_4 H locs ls hP hD hS hl hf
    refine lv_lload_n hx hb dX1_habitsNow_48 rfl (lv_at hl 1 rfl) ?_
    have he := Option.some.inj hf
    have hP9 := hP
    have hD9 := hD
    exact W.lret (v := z1_4) hx hb hr (fun t eth hW => ⟨⟨z1_4, (), rfl, he.symm, by rw [eth]; exact hP9, va_K.moved hW.alike hK, hD9⟩, hS.F eth⟩) hS.2.2 dX1_habitsNow_49
  have lp4 : ∀ (n4 : Nat) (y1_4 : Int64) (y3_4 : Int32) (H : Heap) (locs : List Loc) (ls : Array Slot), va_P (dC, dI) vwCl [(ht, .inr (1, [.ref ht_drops, .ref ht_from, .ref ht_to, .ref ht_tires, .ref ht_copies, .ref ht_pages, .int vt_size])), (ht_from, .inl (cI, 4, .inl vt_from)), (ht_to, .inl (cI, 4, .inl vt_to)), (ht_copies, .inl (cI, 4, .inl vt_copies))] H → va_D A [(ht, .inr (1, [.ref ht_drops, .ref ht_from, .ref ht_to, .ref ht_tires, .ref ht_copies, .ref ht_pages, .int vt_size])), (ht_from, .inl (cI, 4, .inl vt_from)), (ht_to, .inl (cI, 4, .inl vt_to)), (ht_copies, .inl (cI, 4, .inl vt_copies))] → va_S A s.heap H locs → lv_has ls 4 [(3, .int y3_4), (1, .long y1_4), (0, .ref ht)] → f_X1_habitsNow_4 N vt_from vt_to vt_copies (fun z1_4 z3_4 => some z1_4) n4 y1_4 y3_4 = some R → W p l e (rm_X1_habitsNow) s m ([.ref ht] : List Value).toArray below meth c H locs 0 0 (MQ below (q_X1_habitsNow dC dI cI cJ cZ ht ht_drops ht_from ht_to ht_tires ht_copies ht_pages vt_size vt_from vt_to vt_copies R A) ([.ref ht] : List Value).toArray s 0 0 A) (F0 m 4 ls []) := by
    intro n4
    induction n4 with
    | zero => intro y1_4 y3_4 H locs ls hP hD hS hl hf; rw [f_X1_habitsNow_4] at hf; cases hf
    | succ n4 ih4 =>
      intro y1_4 y3_4 H locs ls hP hD hS hl hf
      rw [f_X1_habitsNow_4] at hf
      refine lv_iload_n hx hb dX1_habitsNow_4 rfl (lv_at hl 0 rfl) ?_
      refine lv_if_lt (tgt := 48) hx hb dX1_habitsNow_5 (by decide) (fun c1 => ?_) (fun c1 => ?_)
      · replace hf := dg_t c1 hf
        exact ex4 y1_4 y3_4 _ _ _ hP hD hS (lv_sub hl [0, 1, 2] rfl) hf
      · replace hf := dg_f c1 hf
        refine lv_lload_n hx hb dX1_habitsNow_8 rfl (lv_at hl 1 rfl) ?_
        refine lv_bipush (v := 9) hx hb dX1_habitsNow_9 (by decide) ?_
        refine lv_lshl hx hb dX1_habitsNow_11 rfl ?_
        refine lv_aload_n hx hb dX1_habitsNow_12 rfl (lv_at hl 2 rfl) ?_
        refine va_get (D := (dC, dI)) (ci := 1) (v := .ref ht_from) (C := RX1) (T := TX1) (N := 7) hx hb hts hinX1 hown hK hP 0 rfl rfl 1 (by decide) hw0 (fun _ h9 => h9) rfl dX1_habitsNow_13 ?_
        refine lv_iload_n hx hb dX1_habitsNow_16 rfl (lv_at hl 0 rfl) ?_
        obtain ⟨hi2, hf⟩ := dg_ix hf
        refine va_iald hx hb hK hP 1 0 rfl rfl hi2 dX1_habitsNow_17 ?_
        refine lv_bipush (v := 6) hx hb dX1_habitsNow_18 (by decide) ?_
        refine lv_ishl hx hb dX1_habitsNow_20 ?_
        refine lv_i2l hx hb dX1_habitsNow_21 rfl ?_
        refine lv_lor hx hb dX1_habitsNow_22 ?_
        refine lv_aload_n hx hb dX1_habitsNow_23 rfl (lv_at hl 2 rfl) ?_
        refine va_get (D := (dC, dI)) (ci := 1) (v := .ref ht_to) (C := RX1) (T := TX1) (N := 7) hx hb hts hinX1 hown hK hP 0 rfl rfl 2 (by decide) hw1 (fun _ h9 => h9) rfl dX1_habitsNow_24 ?_
        refine lv_iload_n hx hb dX1_habitsNow_27 rfl (lv_at hl 0 rfl) ?_
        obtain ⟨hi3, hf⟩ := dg_ix hf
        refine va_iald hx hb hK hP 2 0 rfl rfl hi3 dX1_habitsNow_28 ?_
        refine lv_iconst (v := 3) hx hb dX1_habitsNow_29 (by decide) ?_
        refine lv_ishl hx hb dX1_habitsNow_30 ?_
        refine lv_i2l hx hb dX1_habitsNow_31 rfl ?_
        refine lv_lor hx hb dX1_habitsNow_32 ?_
        refine lv_aload_n hx hb dX1_habitsNow_33 rfl (lv_at hl 2 rfl) ?_
        refine va_get (D := (dC, dI)) (ci := 1) (v := .ref ht_copies) (C := RX1) (T := TX1) (N := 7) hx hb hts hinX1 hown hK hP 0 rfl rfl 4 (by decide) hw2 (fun _ h9 => h9) rfl dX1_habitsNow_34 ?_
        refine lv_iload_n hx hb dX1_habitsNow_37 rfl (lv_at hl 0 rfl) ?_
        obtain ⟨hi4, hf⟩ := dg_ix hf
        refine va_iald hx hb hK hP 3 0 rfl rfl hi4 dX1_habitsNow_38 ?_
        refine lv_i2l hx hb dX1_habitsNow_39 rfl ?_
        refine lv_lor hx hb dX1_habitsNow_40 ?_
        refine lv_lstore_n (lv' := [(1, .long ((((y1_4 <<< ((9:Int32).toInt64 &&& 63)) ||| ((vt_from y3_4.toNatClampNeg) <<< ((6:Int32) &&& 31)).toInt64) ||| ((vt_to y3_4.toNatClampNeg) <<< ((3:Int32) &&& 31)).toInt64) ||| (vt_copies y3_4.toNatClampNeg).toInt64)), (3, .int y3_4), (0, .ref ht)]) hx hb dX1_habitsNow_41 rfl hl (by decide) rfl (fun ls hl => ?_)
        refine lv_iinc (v := (y3_4 + (-1:Int32))) (lv' := [(3, .int (y3_4 + (-1:Int32))), (1, .long ((((y1_4 <<< ((9:Int32).toInt64 &&& 63)) ||| ((vt_from y3_4.toNatClampNeg) <<< ((6:Int32) &&& 31)).toInt64) ||| ((vt_to y3_4.toNatClampNeg) <<< ((3:Int32) &&& 31)).toInt64) ||| (vt_copies y3_4.toNatClampNeg).toInt64)), (0, .ref ht)]) hx hb dX1_habitsNow_42 hl (k := 1) rfl (by first | rfl | decide) (by decide) rfl (fun ls hl => ?_)
        refine lv_goto (tgt := 4) hx hb dX1_habitsNow_45 (by decide) ?_
        exact ih4 ((((y1_4 <<< ((9:Int32).toInt64 &&& 63)) ||| ((vt_from y3_4.toNatClampNeg) <<< ((6:Int32) &&& 31)).toInt64) ||| ((vt_to y3_4.toNatClampNeg) <<< ((3:Int32) &&& 31)).toInt64) ||| (vt_copies y3_4.toNatClampNeg).toInt64) (y3_4 + (-1:Int32)) _ _ _ hP hD hS (lv_sub hl [0, 1, 2] rfl) hf
  exact lp4 N (0:Int64) (3:Int32) _ _ _ hP hD hS hl hf
theorem hd_X1_putBack : yX1_putBack.cls = RX1 ∧ yX1_putBack.cls ≠ "java/lang/invoke/MethodHandle" ∧ yX1_putBack.cls ≠ "java/lang/invoke/VarHandle" ∧ (parseMethodDescriptor yX1_putBack.desc).map (fun d => d.parameters.length) = some 1 := by decide +kernel
abbrev rm_X1_putBack : Room := { frames := 0, cells := 0, slots := 0, locals := 0 }
abbrev q_X1_putBack (dC : Nat → ClassId) (dI : Nat → Nat → Nat) (cI cJ cZ : ClassId) (ht ht_drops ht_from ht_to ht_tires ht_copies ht_pages : Nat) (vt_size : Int32) (R : (Nat → Int32) × (Nat → Int32) × (Nat → Int32)) (A : Nat → Prop) : Array Value → State → Outcome → State → Prop := va_Qv (fun (u : (Nat → Int32) × (Nat → Int32) × (Nat → Int32)) => R = u) (fun (u : (Nat → Int32) × (Nat → Int32) × (Nat → Int32)) (t : State) => va_P (dC, dI) vwCl [(ht, .inr (1, [.ref ht_drops, .ref ht_from, .ref ht_to, .ref ht_tires, .ref ht_copies, .ref ht_pages, .int vt_size])), (ht_from, .inl (cI, 4, .inl u.1)), (ht_to, .inl (cI, 4, .inl u.2.1)), (ht_copies, .inl (cI, 4, .inl u.2.2))] t.heap ∧ va_K (dC, dI) vwCl [(cI, .int), (cJ, .long), (cZ, .boolean)] t ∧ va_D A [(ht, .inr (1, [.ref ht_drops, .ref ht_from, .ref ht_to, .ref ht_tires, .ref ht_copies, .ref ht_pages, .int vt_size])), (ht_from, .inl (cI, 4, .inl u.1)), (ht_to, .inl (cI, 4, .inl u.2.1)), (ht_copies, .inl (cI, 4, .inl u.2.2))]) A
set_option maxHeartbeats 4000000 in
set_option maxRecDepth 100000 in
theorem k_X1_putBack (l : Launch) (dC : Nat → ClassId) (dI : Nat → Nat → Nat) (cI cJ cZ : ClassId) (sz : Nat) (ht ht_drops ht_from ht_to ht_tires ht_copies ht_pages : Nat) (a1 : Int64) (vt_size : Int32) (vt_from : Nat → Int32) (vt_to : Nat → Int32) (vt_copies : Nat → Int32) (N : Nat) (R : (Nat → Int32) × (Nat → Int32) × (Nat → Int32)) (hf : f_X1_putBack N a1 vt_from vt_to vt_copies = some R) : Met l yX1_putBack wsX1_putBack (rm_X1_putBack) (va_Pc [.ref ht, .long a1] (fun U => U.heap.size = sz ∧ va_P (dC, dI) vwCl [(ht, .inr (1, [.ref ht_drops, .ref ht_from, .ref ht_to, .ref ht_tires, .ref ht_copies, .ref ht_pages, .int vt_size])), (ht_from, .inl (cI, 4, .inl vt_from)), (ht_to, .inl (cI, 4, .inl vt_to)), (ht_copies, .inl (cI, 4, .inl vt_copies))] U.heap ∧ va_K (dC, dI) vwCl [(cI, .int), (cJ, .long), (cZ, .boolean)] U ∧ va_D (fun _ => True) [(ht, .inr (1, [.ref ht_drops, .ref ht_from, .ref ht_to, .ref ht_tires, .ref ht_copies, .ref ht_pages, .int vt_size])), (ht_from, .inl (cI, 4, .inl vt_from)), (ht_to, .inl (cI, 4, .inl vt_to)), (ht_copies, .inl (cI, 4, .inl vt_copies))])) (q_X1_putBack dC dI cI cJ cZ ht ht_drops ht_from ht_to ht_tires ht_copies ht_pages vt_size R (va_A [(ht, .inr (1, [.ref ht_drops, .ref ht_from, .ref ht_to, .ref ht_tires, .ref ht_copies, .ref ht_pages, .int vt_size])), (ht_from, .inl (cI, 4, .inl vt_from)), (ht_to, .inl (cI, 4, .inl vt_to)), (ht_copies, .inl (cI, 4, .inl vt_copies))] sz)) 0 0 (va_A [(ht, .inr (1, [.ref ht_drops, .ref ht_from, .ref ht_to, .ref ht_tires, .ref ht_copies, .ref ht_pages, .int vt_size])), (ht_from, .inl (cI, 4, .inl vt_from)), (ht_to, .inl (cI, 4, .inl vt_to)), (ht_copies, .inl (cI, 4, .inl vt_copies))] sz) := by
  refine Met.ofW (cc := cX1_putBack) (maxL := 5) (ret := none) (by decide) rfl ?_
  intro p e s m args below meth c s₁ B hml hv
  obtain ⟨rfl, hsz, hP, hK, hD0⟩ := hv
  have hx := B.exec
  have hb := B.bytes
  have hr := B.returns
  have hts := atoms_spec (ws := wsX1_putBack) B.pre
  have hown : s.vm.findClass RX1 = some m.cls := findClass_of_methodNamed B.named
  have hlocks := B.notSynchronized
  clear B
  subst hsz
  have hw0 := hts (.fieldLink RX1 15 "ShorthandCourt$Bench" "from" "[I") (by decide +kernel)
  have hw1 := hts (.fieldLink RX1 18 "ShorthandCourt$Bench" "to" "[I") (by decide +kernel)
  have hw2 := hts (.fieldLink RX1 24 "ShorthandCourt$Bench" "copies" "[I") (by decide +kernel)
  have hinX1 : ∀ w ∈ u_ws RX1 TX1 7, w ∈ wsX1_putBack := by decide +kernel
  have hD := hD0.self (sz := s.heap.size)
  clear hD0
  generalize hAe : va_A [(ht, .inr (1, [.ref ht_drops, .ref ht_from, .ref ht_to, .ref ht_tires, .ref ht_copies, .ref ht_pages, .int vt_size])), (ht_from, .inl (cI, 4, .inl vt_from)), (ht_to, .inl (cI, 4, .inl vt_to)), (ht_copies, .inl (cI, 4, .inl vt_copies))] s.heap.size = A at hD ⊢
  have hA : ∀ q : Nat, s.heap.size ≤ q → A q := fun q h => by rw [← hAe]; exact Or.inr h
  clear hAe
  have hS : va_S A s.heap s.heap [] := va_S.rf
  have hl := lv_entry ([.ref ht, .long a1]) (n := 5) (Nat.le_of_ble_eq_true rfl)
  rw [lg_entry_eq]
  generalize (lg_sl ([.ref ht, .long a1]) ++ List.replicate (5 - (lg_sl ([.ref ht, .long a1])).length) Slot.unset).toArray = ls at hl ⊢
  have hl : lv_has ls 5 [(0, .ref ht), (1, .long a1)] := hl
  unfold f_X1_putBack at hf
  refine lv_iconst (v := 0) hx hb dX1_putBack_0 (by decide) ?_
  refine lv_istore_n (lv' := [(3, .int (0:Int32)), (0, .ref ht), (1, .long a1)]) hx hb dX1_putBack_1 rfl hl (by decide) rfl (fun ls hl => ?_)
  have ex2 : ∀ (z3_2 : Int32) (zvt_from_2 : (Nat → Int32)) (zvt_to_2 : (Nat → Int32)) (zvt_copies_2 : (Nat → Int32)) (H : Heap) (locs : List Loc) (ls : Array Slot), va_P (dC, dI) vwCl [(ht, .inr (1, [.ref ht_drops, .ref ht_from, .ref ht_to, .ref ht_tires, .ref ht_copies, .ref ht_pages, .int vt_size])), (ht_from, .inl (cI, 4, .inl zvt_from_2)), (ht_to, .inl (cI, 4, .inl zvt_to_2)), (ht_copies, .inl (cI, 4, .inl zvt_copies_2))] H → va_D A [(ht, .inr (1, [.ref ht_drops, .ref ht_from, .ref ht_to, .ref ht_tires, .ref ht_copies, .ref ht_pages, .int vt_size])), (ht_from, .inl (cI, 4, .inl zvt_from_2)), (ht_to, .inl (cI, 4, .inl zvt_to_2)), (ht_copies, .inl (cI, 4, .inl zvt_copies_2))] → va_S A s.heap H locs → lv_has ls 5 [(3, .int z3_2), (0, .ref ht), (1, .long a1)] → (some (zvt_from_2, zvt_to_2, zvt_copies_2)) = some R → W p l e (rm_X1_putBack) s m ([.ref ht, .long a1] : List Value).toArray below meth c H locs 0 0 (MQ below (q_X1_putBack dC dI cI cJ cZ ht ht_drops ht_from ht_to ht_tires ht_copies ht_pages vt_size R A) ([.ref ht, .long a1] : List Value).toArray s 0 0 A) (F0 m 60 ls []) := by
    intro z3_2 zvt_from_2 zvt_to_2 zvt_copies_2 H locs ls hP hD hS hl hf
    have he := Option.some.inj hf
    have hP9 := hP
    have hD9 := hD
    exact W.vret hx hb hr (fun t eth hW => ⟨⟨(zvt_from_2, zvt_to_2, zvt_copies_2), rfl, he.symm, by rw [eth]; exact hP9, va_K.moved hW.alike hK, hD9⟩, hS.F eth⟩) hS.2.2 dX1_putBack_60
  have lp2 : ∀ (n2 : Nat) (y3_2 : Int32) (yvt_from_2 : (Nat → Int32)) (yvt_to_2 : (Nat → Int32)) (yvt_copies_2 : (Nat → Int32)) (H : Heap) (locs : List Loc) (ls : Array Slot), va_P (dC, dI) vwCl [(ht, .inr (1, [.ref ht_drops, .ref ht_from, .ref ht_to, .ref ht_tires, .ref ht_copies, .ref ht_pages, .int vt_size])), (ht_from, .inl (cI, 4, .inl yvt_from_2)), (ht_to, .inl (cI, 4, .inl yvt_to_2)), (ht_copies, .inl (cI, 4, .inl yvt_copies_2))] H → va_D A [(ht, .inr (1, [.ref ht_drops, .ref ht_from, .ref ht_to, .ref ht_tires, .ref ht_copies, .ref ht_pages, .int vt_size])), (ht_from, .inl (cI, 4, .inl yvt_from_2)), (ht_to, .inl (cI, 4, .inl yvt_to_2)), (ht_copies, .inl (cI, 4, .inl yvt_copies_2))] → va_S A s.heap H locs → lv_has ls 5 [(3, .int y3_2), (0, .ref ht), (1, .long a1)] → f_X1_putBack_2 N a1 (fun z3_2 zvt_from_2 zvt_to_2 zvt_copies_2 => some (zvt_from_2, zvt_to_2, zvt_copies_2)) n2 y3_2 yvt_from_2 yvt_to_2 yvt_copies_2 = some R → W p l e (rm_X1_putBack) s m ([.ref ht, .long a1] : List Value).toArray below meth c H locs 0 0 (MQ below (q_X1_putBack dC dI cI cJ cZ ht ht_drops ht_from ht_to ht_tires ht_copies ht_pages vt_size R A) ([.ref ht, .long a1] : List Value).toArray s 0 0 A) (F0 m 2 ls []) := by
    intro n2
    induction n2 with
    | zero => intro y3_2 yvt_from_2 yvt_to_2 yvt_copies_2 H locs ls hP hD hS hl hf; rw [f_X1_putBack_2] at hf; cases hf
    | succ n2 ih2 =>
      intro y3_2 yvt_from_2 yvt_to_2 yvt_copies_2 H locs ls hP hD hS hl hf
      rw [f_X1_putBack_2] at hf
      refine lv_iload_n hx hb dX1_putBack_2 rfl (lv_at hl 0 rfl) ?_
      refine lv_iconst (v := 4) hx hb dX1_putBack_3 (by decide) ?_
      refine lv_icmp_ge (tgt := 60) hx hb dX1_putBack_4 (by decide) (fun c1 => ?_) (fun c1 => ?_)
      · replace hf := dg_t c1 hf
        exact ex2 y3_2 yvt_from_2 yvt_to_2 yvt_copies_2 _ _ _ hP hD hS (lv_sub hl [0, 1, 2] rfl) hf
      · replace hf := dg_f c1 hf
        refine lv_lload_n hx hb dX1_putBack_7 rfl (lv_at hl 2 rfl) ?_
        refine lv_bipush (v := 9) hx hb dX1_putBack_8 (by decide) ?_
        refine lv_iload_n hx hb dX1_putBack_10 rfl (lv_at hl 0 rfl) ?_
        refine lv_imul hx hb dX1_putBack_11 ?_
        refine lv_lushr hx hb dX1_putBack_12 rfl ?_
        refine lv_l2i hx hb dX1_putBack_13 rfl ?_
        refine lv_istore (lv' := [(4, .int (a1.toUInt64 >>> (((9:Int32) * y3_2).toInt64.toUInt64 &&& Int64.toUInt64 63)).toInt64.toInt32), (3, .int y3_2), (0, .ref ht), (1, .long a1)]) hx hb dX1_putBack_14 hl (by decide) rfl (fun ls hl => ?_)
        refine lv_aload_n hx hb dX1_putBack_16 rfl (lv_at hl 2 rfl) ?_
        refine va_get (D := (dC, dI)) (ci := 1) (v := .ref ht_from) (C := RX1) (T := TX1) (N := 7) hx hb hts hinX1 hown hK hP 0 rfl rfl 1 (by decide) hw0 (fun _ h9 => h9) rfl dX1_putBack_17 ?_
        refine lv_iload_n hx hb dX1_putBack_20 rfl (lv_at hl 1 rfl) ?_
        refine lv_iload hx hb dX1_putBack_21 (lv_at hl 0 rfl) ?_
        refine lv_bipush (v := 6) hx hb dX1_putBack_23 (by decide) ?_
        refine lv_ishr hx hb dX1_putBack_25 ?_
        refine lv_bipush (v := 7) hx hb dX1_putBack_26 (by decide) ?_
        refine lv_iand hx hb dX1_putBack_28 ?_
        obtain ⟨hi2, hf⟩ := dg_ix hf
        refine va_iast hx hb hK hP hD hS 1 0 rfl rfl hi2 dX1_putBack_29 (fun H locs hP hD hS => ?_)
        have hP : va_P (dC, dI) vwCl [(ht, .inr (1, [.ref ht_drops, .ref ht_from, .ref ht_to, .ref ht_tires, .ref ht_copies, .ref ht_pages, .int vt_size])), (ht_from, .inl (cI, 4, .inl (upd yvt_from_2 y3_2.toNatClampNeg (((a1.toUInt64 >>> (((9:Int32) * y3_2).toInt64.toUInt64 &&& Int64.toUInt64 63)).toInt64.toInt32 >>> ((6:Int32) &&& 31)) &&& (7:Int32))))), (ht_to, .inl (cI, 4, .inl yvt_to_2)), (ht_copies, .inl (cI, 4, .inl yvt_copies_2))] H := hP
        have hD : va_D A [(ht, .inr (1, [.ref ht_drops, .ref ht_from, .ref ht_to, .ref ht_tires, .ref ht_copies, .ref ht_pages, .int vt_size])), (ht_from, .inl (cI, 4, .inl (upd yvt_from_2 y3_2.toNatClampNeg (((a1.toUInt64 >>> (((9:Int32) * y3_2).toInt64.toUInt64 &&& Int64.toUInt64 63)).toInt64.toInt32 >>> ((6:Int32) &&& 31)) &&& (7:Int32))))), (ht_to, .inl (cI, 4, .inl yvt_to_2)), (ht_copies, .inl (cI, 4, .inl yvt_copies_2))] := hD
        refine lv_aload_n hx hb dX1_putBack_30 rfl (lv_at hl 2 rfl) ?_
        refine va_get (D := (dC, dI)) (ci := 1) (v := .ref ht_to) (C := RX1) (T := TX1) (N := 7) hx hb hts hinX1 hown hK hP 0 rfl rfl 2 (by decide) hw1 (fun _ h9 => h9) rfl dX1_putBack_31 ?_
        refine lv_iload_n hx hb dX1_putBack_34 rfl (lv_at hl 1 rfl) ?_
        refine lv_iload hx hb dX1_putBack_35 (lv_at hl 0 rfl) ?_
        refine lv_iconst (v := 3) hx hb dX1_putBack_37 (by decide) ?_
        refine lv_ishr hx hb dX1_putBack_38 ?_
        refine lv_bipush (v := 7) hx hb dX1_putBack_39 (by decide) ?_
        refine lv_iand hx hb dX1_putBack_41 ?_
        obtain ⟨hi3, hf⟩ := dg_ix hf
        refine va_iast hx hb hK hP hD hS 2 0 rfl rfl hi3 dX1_putBack_42 (fun H locs hP hD hS => ?_)
        have hP : va_P (dC, dI) vwCl [(ht, .inr (1, [.ref ht_drops, .ref ht_from, .ref ht_to, .ref ht_tires, .ref ht_copies, .ref ht_pages, .int vt_size])), (ht_from, .inl (cI, 4, .inl (upd yvt_from_2 y3_2.toNatClampNeg (((a1.toUInt64 >>> (((9:Int32) * y3_2).toInt64.toUInt64 &&& Int64.toUInt64 63)).toInt64.toInt32 >>> ((6:Int32) &&& 31)) &&& (7:Int32))))), (ht_to, .inl (cI, 4, .inl (upd yvt_to_2 y3_2.toNatClampNeg (((a1.toUInt64 >>> (((9:Int32) * y3_2).toInt64.toUInt64 &&& Int64.toUInt64 63)).toInt64.toInt32 >>> ((3:Int32) &&& 31)) &&& (7:Int32))))), (ht_copies, .inl (cI, 4, .inl yvt_copies_2))] H := hP
        have hD : va_D A [(ht, .inr (1, [.ref ht_drops, .ref ht_from, .ref ht_to, .ref ht_tires, .ref ht_copies, .ref ht_pages, .int vt_size])), (ht_from, .inl (cI, 4, .inl (upd yvt_from_2 y3_2.toNatClampNeg (((a1.toUInt64 >>> (((9:Int32) * y3_2).toInt64.toUInt64 &&& Int64.toUInt64 63)).toInt64.toInt32 >>> ((6:Int32) &&& 31)) &&& (7:Int32))))), (ht_to, .inl (cI, 4, .inl (upd yvt_to_2 y3_2.toNatClampNeg (((a1.toUInt64 >>> (((9:Int32) * y3_2).toInt64.toUInt64 &&& Int64.toUInt64 63)).toInt64.toInt32 >>> ((3:Int32) &&& 31)) &&& (7:Int32))))), (ht_copies, .inl (cI, 4, .inl yvt_copies_2))] := hD
        refine lv_aload_n hx hb dX1_putBack_43 rfl (lv_at hl 2 rfl) ?_
        refine va_get (D := (dC, dI)) (ci := 1) (v := .ref ht_copies) (C := RX1) (T := TX1) (N := 7) hx hb hts hinX1 hown hK hP 0 rfl rfl 4 (by decide) hw2 (fun _ h9 => h9) rfl dX1_putBack_44 ?_
        refine lv_iload_n hx hb dX1_putBack_47 rfl (lv_at hl 1 rfl) ?_
        refine lv_iload hx hb dX1_putBack_48 (lv_at hl 0 rfl) ?_
        refine lv_bipush (v := 7) hx hb dX1_putBack_50 (by decide) ?_
        refine lv_iand hx hb dX1_putBack_52 ?_
        obtain ⟨hi4, hf⟩ := dg_ix hf
        refine va_iast hx hb hK hP hD hS 3 0 rfl rfl hi4 dX1_putBack_53 (fun H locs hP hD hS => ?_)
        have hP : va_P (dC, dI) vwCl [(ht, .inr (1, [.ref ht_drops, .ref ht_from, .ref ht_to, .ref ht_tires, .ref ht_copies, .ref ht_pages, .int vt_size])), (ht_from, .inl (cI, 4, .inl (upd yvt_from_2 y3_2.toNatClampNeg (((a1.toUInt64 >>> (((9:Int32) * y3_2).toInt64.toUInt64 &&& Int64.toUInt64 63)).toInt64.toInt32 >>> ((6:Int32) &&& 31)) &&& (7:Int32))))), (ht_to, .inl (cI, 4, .inl (upd yvt_to_2 y3_2.toNatClampNeg (((a1.toUInt64 >>> (((9:Int32) * y3_2).toInt64.toUInt64 &&& Int64.toUInt64 63)).toInt64.toInt32 >>> ((3:Int32) &&& 31)) &&& (7:Int32))))), (ht_copies, .inl (cI, 4, .inl (upd yvt_copies_2 y3_2.toNatClampNeg ((a1.toUInt64 >>> (((9:Int32) * y3_2).toInt64.toUInt64 &&& Int64.toUInt64 63)).toInt64.toInt32 &&& (7:Int32)))))] H := hP
        have hD : va_D A [(ht, .inr (1, [.ref ht_drops, .ref ht_from, .ref ht_to, .ref ht_tires, .ref ht_copies, .ref ht_pages, .int vt_size])), (ht_from, .inl (cI, 4, .inl (upd yvt_from_2 y3_2.toNatClampNeg (((a1.toUInt64 >>> (((9:Int32) * y3_2).toInt64.toUInt64 &&& Int64.toUInt64 63)).toInt64.toInt32 >>> ((6:Int32) &&& 31)) &&& (7:Int32))))), (ht_to, .inl (cI, 4, .inl (upd yvt_to_2 y3_2.toNatClampNeg (((a1.toUInt64 >>> (((9:Int32) * y3_2).toInt64.toUInt64 &&& Int64.toUInt64 63)).toInt64.toInt32 >>> ((3:Int32) &&& 31)) &&& (7:Int32))))), (ht_copies, .inl (cI, 4, .inl (upd yvt_copies_2 y3_2.toNatClampNeg ((a1.toUInt64 >>> (((9:Int32) * y3_2).toInt64.toUInt64 &&& Int64.toUInt64 63)).toInt64.toInt32 &&& (7:Int32)))))] := hD
        refine lv_iinc (v := (y3_2 + (1:Int32))) (lv' := [(3, .int (y3_2 + (1:Int32))), (4, .int (a1.toUInt64 >>> (((9:Int32) * y3_2).toInt64.toUInt64 &&& Int64.toUInt64 63)).toInt64.toInt32), (0, .ref ht), (1, .long a1)]) hx hb dX1_putBack_54 hl (k := 1) rfl (by first | rfl | decide) (by decide) rfl (fun ls hl => ?_)
        refine lv_goto (tgt := 2) hx hb dX1_putBack_57 (by decide) ?_
        exact ih2 (y3_2 + (1:Int32)) (upd yvt_from_2 y3_2.toNatClampNeg (((a1.toUInt64 >>> (((9:Int32) * y3_2).toInt64.toUInt64 &&& Int64.toUInt64 63)).toInt64.toInt32 >>> ((6:Int32) &&& 31)) &&& (7:Int32))) (upd yvt_to_2 y3_2.toNatClampNeg (((a1.toUInt64 >>> (((9:Int32) * y3_2).toInt64.toUInt64 &&& Int64.toUInt64 63)).toInt64.toInt32 >>> ((3:Int32) &&& 31)) &&& (7:Int32))) (upd yvt_copies_2 y3_2.toNatClampNeg ((a1.toUInt64 >>> (((9:Int32) * y3_2).toInt64.toUInt64 &&& Int64.toUInt64 63)).toInt64.toInt32 &&& (7:Int32))) _ _ _ hP hD hS (lv_sub hl [0, 2, 3] rfl) hf
  exact lp2 N (0:Int32) vt_from vt_to vt_copies _ _ _ hP hD hS hl hf
theorem hd_X2_add : yX2_add.cls = RX2 ∧ yX2_add.cls ≠ "java/lang/invoke/MethodHandle" ∧ yX2_add.cls ≠ "java/lang/invoke/VarHandle" ∧ (parseMethodDescriptor yX2_add.desc).map (fun d => d.parameters.length) = some 1 := by decide +kernel
abbrev rm_X2_add : Room := { frames := 0, cells := 0, slots := 0, locals := 0 }
abbrev q_X2_add (dC : Nat → ClassId) (dI : Nat → Nat → Nat) (cI cJ cZ : ClassId) (ht ht_letters : Nat) (R : Int32 × (Nat → Int32)) (A : Nat → Prop) : Array Value → State → Outcome → State → Prop := va_Qv (fun (u : Int32 × (Nat → Int32)) => R = u) (fun (u : Int32 × (Nat → Int32)) (t : State) => va_P (dC, dI) vwCl [(ht, .inr (2, [.ref ht_letters, .int u.1])), (ht_letters, .inl (cI, 32, .inl u.2))] t.heap ∧ va_K (dC, dI) vwCl [(cI, .int), (cJ, .long), (cZ, .boolean)] t ∧ va_D A [(ht, .inr (2, [.ref ht_letters, .int u.1])), (ht_letters, .inl (cI, 32, .inl u.2))]) A
set_option maxHeartbeats 4000000 in
set_option maxRecDepth 100000 in
theorem k_X2_add (l : Launch) (dC : Nat → ClassId) (dI : Nat → Nat → Nat) (cI cJ cZ : ClassId) (sz : Nat) (ht ht_letters : Nat) (a1 : Int32) (vt_size : Int32) (vt_letters : Nat → Int32) (N : Nat) (R : Int32 × (Nat → Int32)) (hf : f_X2_add N a1 vt_size vt_letters = some R) : Met l yX2_add wsX2_add (rm_X2_add) (va_Pc [.ref ht, .int a1] (fun U => U.heap.size = sz ∧ va_P (dC, dI) vwCl [(ht, .inr (2, [.ref ht_letters, .int vt_size])), (ht_letters, .inl (cI, 32, .inl vt_letters))] U.heap ∧ va_K (dC, dI) vwCl [(cI, .int), (cJ, .long), (cZ, .boolean)] U ∧ va_D (fun _ => True) [(ht, .inr (2, [.ref ht_letters, .int vt_size])), (ht_letters, .inl (cI, 32, .inl vt_letters))])) (q_X2_add dC dI cI cJ cZ ht ht_letters R (va_A [(ht, .inr (2, [.ref ht_letters, .int vt_size])), (ht_letters, .inl (cI, 32, .inl vt_letters))] sz)) 0 0 (va_A [(ht, .inr (2, [.ref ht_letters, .int vt_size])), (ht_letters, .inl (cI, 32, .inl vt_letters))] sz) := by
  refine Met.ofW (cc := cX2_add) (maxL := 2) (ret := none) (by decide) rfl ?_
  intro p e s m args below meth c s₁ B hml hv
  obtain ⟨rfl, hsz, hP, hK, hD0⟩ := hv
  have hx := B.exec
  have hb := B.bytes
  have hr := B.returns
  have hts := atoms_spec (ws := wsX2_add) B.pre
  have hown : s.vm.findClass RX2 = some m.cls := findClass_of_methodNamed B.named
  have hlocks := B.notSynchronized
  clear B
  subst hsz
  have hw0 := hts (.fieldLink RX2 15 "ShorthandCourt$CourtText" "size" "I") (by decide +kernel)
  have hw1 := hts (.fieldLink RX2 9 "ShorthandCourt$CourtText" "letters" "[I") (by decide +kernel)
  have hinX2 : ∀ w ∈ u_ws RX2 TX2 2, w ∈ wsX2_add := by decide +kernel
  have hD := hD0.self (sz := s.heap.size)
  clear hD0
  generalize hAe : va_A [(ht, .inr (2, [.ref ht_letters, .int vt_size])), (ht_letters, .inl (cI, 32, .inl vt_letters))] s.heap.size = A at hD ⊢
  have hA : ∀ q : Nat, s.heap.size ≤ q → A q := fun q h => by rw [← hAe]; exact Or.inr h
  clear hAe
  have hS : va_S A s.heap s.heap [] := va_S.rf
  have hl := lv_entry ([.ref ht, .int a1]) (n := 2) (Nat.le_of_ble_eq_true rfl)
  rw [lg_entry_eq]
  generalize (lg_sl ([.ref ht, .int a1]) ++ List.replicate (2 - (lg_sl ([.ref ht, .int a1])).length) Slot.unset).toArray = ls at hl ⊢
  have hl : lv_has ls 2 [(0, .ref ht), (1, .int a1)] := hl
  unfold f_X2_add at hf
  refine lv_aload_n hx hb dX2_add_0 rfl (lv_at hl 0 rfl) ?_
  refine va_get (D := (dC, dI)) (ci := 2) (v := .int vt_size) (C := RX2) (T := TX2) (N := 2) hx hb hts hinX2 hown hK hP 0 rfl rfl 1 (by decide) hw0 (fun _ h9 => h9) rfl dX2_add_1 ?_
  refine lv_bipush (v := 32) hx hb dX2_add_4 (by decide) ?_
  refine lv_icmp_ge (tgt := 29) hx hb dX2_add_6 (by decide) (fun c1 => ?_) (fun c1 => ?_)
  · replace hf := dg_t c1 hf
    have he := Option.some.inj hf
    have hP9 := hP
    have hD9 := hD
    exact W.vret hx hb hr (fun t eth hW => ⟨⟨(vt_size, vt_letters), rfl, he.symm, by rw [eth]; exact hP9, va_K.moved hW.alike hK, hD9⟩, hS.F eth⟩) hS.2.2 dX2_add_29
  · replace hf := dg_f c1 hf
    refine lv_aload_n hx hb dX2_add_9 rfl (lv_at hl 0 rfl) ?_
    refine va_get (D := (dC, dI)) (ci := 2) (v := .ref ht_letters) (C := RX2) (T := TX2) (N := 2) hx hb hts hinX2 hown hK hP 0 rfl rfl 0 (by decide) hw1 (fun _ h9 => h9) rfl dX2_add_10 ?_
    refine lv_aload_n hx hb dX2_add_13 rfl (lv_at hl 0 rfl) ?_
    refine va_get (D := (dC, dI)) (ci := 2) (v := .int vt_size) (C := RX2) (T := TX2) (N := 2) hx hb hts hinX2 hown hK hP 0 rfl rfl 1 (by decide) hw0 (fun _ h9 => h9) rfl dX2_add_14 ?_
    refine lv_iload_n hx hb dX2_add_17 rfl (lv_at hl 1 rfl) ?_
    obtain ⟨hi2, hf⟩ := dg_ix hf
    refine va_iast hx hb hK hP hD hS 1 0 rfl rfl hi2 dX2_add_18 (fun H locs hP hD hS => ?_)
    have hP : va_P (dC, dI) vwCl [(ht, .inr (2, [.ref ht_letters, .int vt_size])), (ht_letters, .inl (cI, 32, .inl (upd vt_letters vt_size.toNatClampNeg a1)))] H := hP
    have hD : va_D A [(ht, .inr (2, [.ref ht_letters, .int vt_size])), (ht_letters, .inl (cI, 32, .inl (upd vt_letters vt_size.toNatClampNeg a1)))] := hD
    refine lv_aload_n hx hb dX2_add_19 rfl (lv_at hl 0 rfl) ?_
    refine lv_dup hx hb dX2_add_20 rfl ?_
    refine va_get (D := (dC, dI)) (ci := 2) (v := .int vt_size) (C := RX2) (T := TX2) (N := 2) hx hb hts hinX2 hown hK hP 0 rfl rfl 1 (by decide) hw0 (fun _ h9 => h9) rfl dX2_add_21 ?_
    refine lv_iconst (v := 1) hx hb dX2_add_24 (by decide) ?_
    refine lv_iadd hx hb dX2_add_25 ?_
    refine va_put (D := (dC, dI)) (ci := 2) (v := .int (vt_size + (1:Int32))) (ty := .int) (C := RX2) (T := TX2) (N := 2) hx hb hts hinX2 tyX2 tyX2_ok nmX2 hown hK hP hD hS 0 rfl rfl 1 (by decide) hw0 (fun _ h9 => h9) rfl (by decide +kernel) rfl rfl (Nat.le_of_ble_eq_true rfl) dX2_add_26 (fun H locs hP hD hS => ?_)
    have hP : va_P (dC, dI) vwCl [(ht, .inr (2, [.ref ht_letters, .int (vt_size + (1:Int32))])), (ht_letters, .inl (cI, 32, .inl (upd vt_letters vt_size.toNatClampNeg a1)))] H := hP
    have hD : va_D A [(ht, .inr (2, [.ref ht_letters, .int (vt_size + (1:Int32))])), (ht_letters, .inl (cI, 32, .inl (upd vt_letters vt_size.toNatClampNeg a1)))] := hD
    have he := Option.some.inj hf
    have hP9 := hP
    have hD9 := hD
    exact W.vret hx hb hr (fun t eth hW => ⟨⟨((vt_size + (1:Int32)), (upd vt_letters vt_size.toNatClampNeg a1)), rfl, he.symm, by rw [eth]; exact hP9, va_K.moved hW.alike hK, hD9⟩, hS.F eth⟩) hS.2.2 dX2_add_29
theorem hd_X2_isWordLetter : yX2_isWordLetter.cls ≠ "java/lang/invoke/MethodHandle" ∧ yX2_isWordLetter.cls ≠ "java/lang/invoke/VarHandle" ∧ (parseMethodDescriptor yX2_isWordLetter.desc).map (fun d => d.parameters.length) = some 1 := by decide +kernel
abbrev rm_X2_isWordLetter : Room := { frames := 0, cells := 0, slots := 0, locals := 0 }
abbrev q_X2_isWordLetter (dC : Nat → ClassId) (dI : Nat → Nat → Nat) (cI cJ cZ : ClassId) (R : Int32) (A : Nat → Prop) : Array Value → State → Outcome → State → Prop := va_Qi (fun (r : Int32) (_ : Unit) => R = r) (fun (u : Unit) (t : State) => va_P (dC, dI) vwCl [] t.heap ∧ va_K (dC, dI) vwCl [(cI, .int), (cJ, .long), (cZ, .boolean)] t ∧ va_D A []) A
set_option maxHeartbeats 4000000 in
set_option maxRecDepth 100000 in
theorem k_X2_isWordLetter (l : Launch) (dC : Nat → ClassId) (dI : Nat → Nat → Nat) (cI cJ cZ : ClassId) (sz : Nat) (a0 : Int32) (N : Nat) (R : Int32) (hf : f_X2_isWordLetter N a0 = some R) : Met l yX2_isWordLetter wsX2_isWordLetter (rm_X2_isWordLetter) (va_Pc [.int a0] (fun U => U.heap.size = sz ∧ va_P (dC, dI) vwCl [] U.heap ∧ va_K (dC, dI) vwCl [(cI, .int), (cJ, .long), (cZ, .boolean)] U ∧ va_D (fun _ => True) [])) (q_X2_isWordLetter dC dI cI cJ cZ  R (va_A [] sz)) 0 0 (va_A [] sz) := by
  refine Met.ofW (cc := cX2_isWordLetter) (maxL := 1) (ret := (some .boolean)) (by decide) rfl ?_
  intro p e s m args below meth c s₁ B hml hv
  obtain ⟨rfl, hsz, hP, hK, hD0⟩ := hv
  have hx := B.exec
  have hb := B.bytes
  have hr := B.returns
  have hts := atoms_spec (ws := wsX2_isWordLetter) B.pre
  have hown : s.vm.findClass RX2 = some m.cls := findClass_of_methodNamed B.named
  have hlocks := B.notSynchronized
  clear B
  subst hsz
  have hD := hD0.self (sz := s.heap.size)
  clear hD0
  generalize hAe : va_A [] s.heap.size = A at hD ⊢
  have hA : ∀ q : Nat, s.heap.size ≤ q → A q := fun q h => by rw [← hAe]; exact Or.inr h
  clear hAe
  have hS : va_S A s.heap s.heap [] := va_S.rf
  have hl := lv_entry ([.int a0]) (n := 1) (Nat.le_of_ble_eq_true rfl)
  rw [lg_entry_eq]
  generalize (lg_sl ([.int a0]) ++ List.replicate (1 - (lg_sl ([.int a0])).length) Slot.unset).toArray = ls at hl ⊢
  have hl : lv_has ls 1 [(0, .int a0)] := hl
  unfold f_X2_isWordLetter at hf
  refine lv_iload_n hx hb dX2_isWordLetter_0 rfl (lv_at hl 0 rfl) ?_
  refine lv_bipush (v := 97) hx hb dX2_isWordLetter_1 (by decide) ?_
  refine lv_icmp_lt (tgt := 16) hx hb dX2_isWordLetter_3 (by decide) (fun c1 => ?_) (fun c1 => ?_)
  · replace hf := dg_t c1 hf
    refine lv_iconst (v := 0) hx hb dX2_isWordLetter_16 (by decide) ?_
    have he := Option.some.inj hf
    have hP9 := hP
    have hD9 := hD
    exact W.zret (v := (0:Int32)) (ty := .boolean) hx hb hr (by decide) (fun t eth hW => ⟨⟨(0:Int32), (), rfl, he.symm, by rw [eth]; exact hP9, va_K.moved hW.alike hK, hD9⟩, hS.F eth⟩) hS.2.2 dX2_isWordLetter_17
  · replace hf := dg_f c1 hf
    refine lv_iload_n hx hb dX2_isWordLetter_6 rfl (lv_at hl 0 rfl) ?_
    refine lv_bipush (v := 101) hx hb dX2_isWordLetter_7 (by decide) ?_
    refine lv_icmp_ge (tgt := 16) hx hb dX2_isWordLetter_9 (by decide) (fun c2 => ?_) (fun c2 => ?_)
    · replace hf := dg_t c2 hf
      refine lv_iconst (v := 0) hx hb dX2_isWordLetter_16 (by decide) ?_
      have he := Option.some.inj hf
      have hP9 := hP
      have hD9 := hD
      exact W.zret (v := (0:Int32)) (ty := .boolean) hx hb hr (by decide) (fun t eth hW => ⟨⟨(0:Int32), (), rfl, he.symm, by rw [eth]; exact hP9, va_K.moved hW.alike hK, hD9⟩, hS.F eth⟩) hS.2.2 dX2_isWordLetter_17
    · replace hf := dg_f c2 hf
      refine lv_iconst (v := 1) hx hb dX2_isWordLetter_12 (by decide) ?_
      refine lv_goto (tgt := 17) hx hb dX2_isWordLetter_13 (by decide) ?_
      have he := Option.some.inj hf
      have hP9 := hP
      have hD9 := hD
      exact W.zret (v := (1:Int32)) (ty := .boolean) hx hb hr (by decide) (fun t eth hW => ⟨⟨(1:Int32), (), rfl, he.symm, by rw [eth]; exact hP9, va_K.moved hW.alike hK, hD9⟩, hS.F eth⟩) hS.2.2 dX2_isWordLetter_17
theorem hd_X2_canBeTo : yX2_canBeTo.cls ≠ "java/lang/invoke/MethodHandle" ∧ yX2_canBeTo.cls ≠ "java/lang/invoke/VarHandle" ∧ (parseMethodDescriptor yX2_canBeTo.desc).map (fun d => d.parameters.length) = some 2 := by decide +kernel
abbrev rm_X2_canBeTo : Room := { frames := 1, cells := 0, slots := 0, locals := 20 }
abbrev q_X2_canBeTo (dC : Nat → ClassId) (dI : Nat → Nat → Nat) (cI cJ cZ : ClassId) (R : Int32) (A : Nat → Prop) : Array Value → State → Outcome → State → Prop := va_Qi (fun (r : Int32) (_ : Unit) => R = r) (fun (u : Unit) (t : State) => va_P (dC, dI) vwCl [] t.heap ∧ va_K (dC, dI) vwCl [(cI, .int), (cJ, .long), (cZ, .boolean)] t ∧ va_D A []) A
set_option maxHeartbeats 4000000 in
set_option maxRecDepth 100000 in
theorem k_X2_canBeTo (l : Launch) (dC : Nat → ClassId) (dI : Nat → Nat → Nat) (cI cJ cZ : ClassId) (sz : Nat) (a0 : Int32) (a1 : Int32) (N : Nat) (R : Int32) (hf : f_X2_canBeTo N a0 a1 = some R) : Met l yX2_canBeTo wsX2_canBeTo (rm_X2_canBeTo) (va_Pc [.int a0, .int a1] (fun U => U.heap.size = sz ∧ va_P (dC, dI) vwCl [] U.heap ∧ va_K (dC, dI) vwCl [(cI, .int), (cJ, .long), (cZ, .boolean)] U ∧ va_D (fun _ => True) [])) (q_X2_canBeTo dC dI cI cJ cZ  R (va_A [] sz)) 0 0 (va_A [] sz) := by
  refine Met.ofW (cc := cX2_canBeTo) (maxL := 2) (ret := (some .boolean)) (by decide) rfl ?_
  intro p e s m args below meth c s₁ B hml hv
  obtain ⟨rfl, hsz, hP, hK, hD0⟩ := hv
  have hx := B.exec
  have hb := B.bytes
  have hr := B.returns
  have hts := atoms_spec (ws := wsX2_canBeTo) B.pre
  have hown : s.vm.findClass RX2 = some m.cls := findClass_of_methodNamed B.named
  have hlocks := B.notSynchronized
  clear B
  subst hsz
  have hD := hD0.self (sz := s.heap.size)
  clear hD0
  generalize hAe : va_A [] s.heap.size = A at hD ⊢
  have hA : ∀ q : Nat, s.heap.size ≤ q → A q := fun q h => by rw [← hAe]; exact Or.inr h
  clear hAe
  have hS : va_S A s.heap s.heap [] := va_S.rf
  have hl := lv_entry ([.int a0, .int a1]) (n := 2) (Nat.le_of_ble_eq_true rfl)
  rw [lg_entry_eq]
  generalize (lg_sl ([.int a0, .int a1]) ++ List.replicate (2 - (lg_sl ([.int a0, .int a1])).length) Slot.unset).toArray = ls at hl ⊢
  have hl : lv_has ls 2 [(0, .int a0), (1, .int a1)] := hl
  unfold f_X2_canBeTo at hf
  refine lv_iload_n hx hb dX2_canBeTo_0 rfl (lv_at hl 1 rfl) ?_
  refine lv_bipush (v := 45) hx hb dX2_canBeTo_1 (by decide) ?_
  refine lv_icmp_ne (tgt := 20) hx hb dX2_canBeTo_3 (by decide) (fun c1 => ?_) (fun c1 => ?_)
  · replace hf := dg_f c1 hf
    refine lv_iload_n hx hb dX2_canBeTo_20 rfl (lv_at hl 0 rfl) ?_
    obtain ⟨x2, hx2, hf⟩ := dg_bind hf
    have hPc : va_P (dC, dI) vwCl [] s.heap := hP.sub [] rfl
    have hDc : va_D A [] := hD.sub [] (by decide) rfl
    have hFc := va_free (wc := []) hD hS hA [] rfl
    refine va_calli (va_runS (As := [.int a0]) (rest := []) ⟨hx, hb, hml, hown, hts⟩ (k_X2_isWordLetter l dC dI cI cJ cZ s.heap.size a0 N x2 hx2) (va_cwS 1 hts gX2_canBeTo_X2_isWordLetter rfl rfl rfl hd_X2_isWordLetter ⟨Nat.le_of_ble_eq_true rfl, Nat.le_of_ble_eq_true rfl⟩) ⟨blind_pc, pre_pc hPc hK hDc⟩ rfl rfl hl.1 rfl (lv_room (Nat.le_of_ble_eq_true rfl)) dX2_canBeTo_21 ⟨Nat.zero_le _, Nat.zero_le _⟩) hS (fun q _ h => hFc q h) hFc (fun r u t H1 locs eth hvm hw hB hz1 hk1 hS => ?_)
    obtain ⟨hP1, hK1, hD1⟩ := hB
    rw [eth] at hP1
    subst hw
    obtain ⟨hP, hD⟩ := va_join (wr := []) (w1 := []) hP hD [] [] rfl rfl (by decide) (by decide) hk1 hFc hP1 hD1
    clear hP1 hK1 hD1 hPc hDc hFc hk1 hz1 hvm eth
    generalize H1 = H at hP hS ⊢
    have hP : va_P (dC, dI) vwCl [] H := hP
    have hD : va_D A [] := hD
    refine lv_if_eq (tgt := 36) hx hb dX2_canBeTo_24 (by decide) (fun c3 => ?_) (fun c3 => ?_)
    · replace hf := dg_t c3 hf
      refine lv_iconst (v := 0) hx hb dX2_canBeTo_36 (by decide) ?_
      have he := Option.some.inj hf
      have hP9 := hP
      have hD9 := hD
      exact W.zret (v := (0:Int32)) (ty := .boolean) hx hb hr (by decide) (fun t eth hW => ⟨⟨(0:Int32), (), rfl, he.symm, by rw [eth]; exact hP9, va_K.moved hW.alike hK, hD9⟩, hS.F eth⟩) hS.2.2 dX2_canBeTo_37
    · replace hf := dg_f c3 hf
      refine lv_iload_n hx hb dX2_canBeTo_27 rfl (lv_at hl 0 rfl) ?_
      refine lv_iload_n hx hb dX2_canBeTo_28 rfl (lv_at hl 1 rfl) ?_
      refine lv_icmp_eq (tgt := 36) hx hb dX2_canBeTo_29 (by decide) (fun c4 => ?_) (fun c4 => ?_)
      · replace hf := dg_t c4 hf
        refine lv_iconst (v := 0) hx hb dX2_canBeTo_36 (by decide) ?_
        have he := Option.some.inj hf
        have hP9 := hP
        have hD9 := hD
        exact W.zret (v := (0:Int32)) (ty := .boolean) hx hb hr (by decide) (fun t eth hW => ⟨⟨(0:Int32), (), rfl, he.symm, by rw [eth]; exact hP9, va_K.moved hW.alike hK, hD9⟩, hS.F eth⟩) hS.2.2 dX2_canBeTo_37
      · replace hf := dg_f c4 hf
        refine lv_iconst (v := 1) hx hb dX2_canBeTo_32 (by decide) ?_
        refine lv_goto (tgt := 37) hx hb dX2_canBeTo_33 (by decide) ?_
        have he := Option.some.inj hf
        have hP9 := hP
        have hD9 := hD
        exact W.zret (v := (1:Int32)) (ty := .boolean) hx hb hr (by decide) (fun t eth hW => ⟨⟨(1:Int32), (), rfl, he.symm, by rw [eth]; exact hP9, va_K.moved hW.alike hK, hD9⟩, hS.F eth⟩) hS.2.2 dX2_canBeTo_37
  · replace hf := dg_t c1 hf
    refine lv_iload_n hx hb dX2_canBeTo_6 rfl (lv_at hl 0 rfl) ?_
    refine lv_bipush (v := 45) hx hb dX2_canBeTo_7 (by decide) ?_
    refine lv_icmp_ne (tgt := 16) hx hb dX2_canBeTo_9 (by decide) (fun c5 => ?_) (fun c5 => ?_)
    · replace hf := dg_f c5 hf
      refine lv_iconst (v := 0) hx hb dX2_canBeTo_16 (by decide) ?_
      refine lv_goto (tgt := 37) hx hb dX2_canBeTo_17 (by decide) ?_
      have he := Option.some.inj hf
      have hP9 := hP
      have hD9 := hD
      exact W.zret (v := (0:Int32)) (ty := .boolean) hx hb hr (by decide) (fun t eth hW => ⟨⟨(0:Int32), (), rfl, he.symm, by rw [eth]; exact hP9, va_K.moved hW.alike hK, hD9⟩, hS.F eth⟩) hS.2.2 dX2_canBeTo_37
    · replace hf := dg_t c5 hf
      refine lv_iconst (v := 1) hx hb dX2_canBeTo_12 (by decide) ?_
      refine lv_goto (tgt := 37) hx hb dX2_canBeTo_13 (by decide) ?_
      have he := Option.some.inj hf
      have hP9 := hP
      have hD9 := hD
      exact W.zret (v := (1:Int32)) (ty := .boolean) hx hb hr (by decide) (fun t eth hW => ⟨⟨(1:Int32), (), rfl, he.symm, by rw [eth]; exact hP9, va_K.moved hW.alike hK, hD9⟩, hS.F eth⟩) hS.2.2 dX2_canBeTo_37
theorem hd_X2_canStand : yX2_canStand.cls = RX2 ∧ yX2_canStand.cls ≠ "java/lang/invoke/MethodHandle" ∧ yX2_canStand.cls ≠ "java/lang/invoke/VarHandle" ∧ (parseMethodDescriptor yX2_canStand.desc).map (fun d => d.parameters.length) = some 1 := by decide +kernel
abbrev rm_X2_canStand : Room := { frames := 2, cells := 0, slots := 0, locals := 41 }
abbrev q_X2_canStand (dC : Nat → ClassId) (dI : Nat → Nat → Nat) (cI cJ cZ : ClassId) (ht ht_letters : Nat) (vt_size : Int32) (vt_letters : Nat → Int32) (R : Int32) (A : Nat → Prop) : Array Value → State → Outcome → State → Prop := va_Qi (fun (r : Int32) (_ : Unit) => R = r) (fun (u : Unit) (t : State) => va_P (dC, dI) vwCl [(ht, .inr (2, [.ref ht_letters, .int vt_size])), (ht_letters, .inl (cI, 32, .inl vt_letters))] t.heap ∧ va_K (dC, dI) vwCl [(cI, .int), (cJ, .long), (cZ, .boolean)] t ∧ va_D A [(ht, .inr (2, [.ref ht_letters, .int vt_size])), (ht_letters, .inl (cI, 32, .inl vt_letters))]) A
set_option maxHeartbeats 4000000 in
set_option maxRecDepth 100000 in
theorem k_X2_canStand (l : Launch) (dC : Nat → ClassId) (dI : Nat → Nat → Nat) (cI cJ cZ : ClassId) (sz : Nat) (ht ht_letters : Nat) (a1 : Int32) (vt_size : Int32) (vt_letters : Nat → Int32) (N : Nat) (R : Int32) (hf : f_X2_canStand N a1 vt_letters = some R) : Met l yX2_canStand wsX2_canStand (rm_X2_canStand) (va_Pc [.ref ht, .int a1] (fun U => U.heap.size = sz ∧ va_P (dC, dI) vwCl [(ht, .inr (2, [.ref ht_letters, .int vt_size])), (ht_letters, .inl (cI, 32, .inl vt_letters))] U.heap ∧ va_K (dC, dI) vwCl [(cI, .int), (cJ, .long), (cZ, .boolean)] U ∧ va_D (fun _ => True) [(ht, .inr (2, [.ref ht_letters, .int vt_size])), (ht_letters, .inl (cI, 32, .inl vt_letters))])) (q_X2_canStand dC dI cI cJ cZ ht ht_letters vt_size vt_letters R (va_A [(ht, .inr (2, [.ref ht_letters, .int vt_size])), (ht_letters, .inl (cI, 32, .inl vt_letters))] sz)) 0 0 (va_A [(ht, .inr (2, [.ref ht_letters, .int vt_size])), (ht_letters, .inl (cI, 32, .inl vt_letters))] sz) := by
  refine Met.ofW (cc := cX2_canStand) (maxL := 4) (ret := (some .boolean)) (by decide) rfl ?_
  intro p e s m args below meth c s₁ B hml hv
  obtain ⟨rfl, hsz, hP, hK, hD0⟩ := hv
  have hx := B.exec
  have hb := B.bytes
  have hr := B.returns
  have hts := atoms_spec (ws := wsX2_canStand) B.pre
  have hown : s.vm.findClass RX2 = some m.cls := findClass_of_methodNamed B.named
  have hlocks := B.notSynchronized
  clear B
  subst hsz
  have hw0 := hts (.fieldLink RX2 9 "ShorthandCourt$CourtText" "letters" "[I") (by decide +kernel)
  have hinX2 : ∀ w ∈ u_ws RX2 TX2 2, w ∈ wsX2_canStand := by decide +kernel
  have hD := hD0.self (sz := s.heap.size)
  clear hD0
  generalize hAe : va_A [(ht, .inr (2, [.ref ht_letters, .int vt_size])), (ht_letters, .inl (cI, 32, .inl vt_letters))] s.heap.size = A at hD ⊢
  have hA : ∀ q : Nat, s.heap.size ≤ q → A q := fun q h => by rw [← hAe]; exact Or.inr h
  clear hAe
  have hS : va_S A s.heap s.heap [] := va_S.rf
  have hl := lv_entry ([.ref ht, .int a1]) (n := 4) (Nat.le_of_ble_eq_true rfl)
  rw [lg_entry_eq]
  generalize (lg_sl ([.ref ht, .int a1]) ++ List.replicate (4 - (lg_sl ([.ref ht, .int a1])).length) Slot.unset).toArray = ls at hl ⊢
  have hl : lv_has ls 4 [(0, .ref ht), (1, .int a1)] := hl
  unfold f_X2_canStand at hf
  refine lv_aload_n hx hb dX2_canStand_0 rfl (lv_at hl 0 rfl) ?_
  refine va_get (D := (dC, dI)) (ci := 2) (v := .ref ht_letters) (C := RX2) (T := TX2) (N := 2) hx hb hts hinX2 hown hK hP 0 rfl rfl 0 (by decide) hw0 (fun _ h9 => h9) rfl dX2_canStand_1 ?_
  refine lv_iload_n hx hb dX2_canStand_4 rfl (lv_at hl 1 rfl) ?_
  obtain ⟨hi1, hf⟩ := dg_ix hf
  refine va_iald hx hb hK hP 1 0 rfl rfl hi1 dX2_canStand_5 ?_
  refine lv_istore_n (lv' := [(2, .int (vt_letters a1.toNatClampNeg)), (0, .ref ht), (1, .int a1)]) hx hb dX2_canStand_6 rfl hl (by decide) rfl (fun ls hl => ?_)
  refine lv_iload_n hx hb dX2_canStand_7 rfl (lv_at hl 2 rfl) ?_
  refine lv_if_ne (tgt := 23) hx hb dX2_canStand_8 (by decide) (fun c2 => ?_) (fun c2 => ?_)
  · replace hf := dg_f c2 hf
    refine lv_iload_n hx hb dX2_canStand_23 rfl (lv_at hl 2 rfl) ?_
    refine lv_iconst (v := 1) hx hb dX2_canStand_24 (by decide) ?_
    refine lv_isub hx hb dX2_canStand_25 ?_
    refine lv_bipush (v := 6) hx hb dX2_canStand_26 (by decide) ?_
    refine lv_idiv hx hb dX2_canStand_28 (by decide) ?_
    refine lv_istore_n (lv' := [(3, .int ((a1 - (1:Int32)) / (6:Int32))), (2, .int (vt_letters a1.toNatClampNeg)), (0, .ref ht), (1, .int a1)]) hx hb dX2_canStand_29 rfl hl (by decide) rfl (fun ls hl => ?_)
    refine lv_iload_n hx hb dX2_canStand_30 rfl (lv_at hl 0 rfl) ?_
    refine lv_iconst (v := 4) hx hb dX2_canStand_31 (by decide) ?_
    refine lv_icmp_lt (tgt := 37) hx hb dX2_canStand_32 (by decide) (fun c3 => ?_) (fun c3 => ?_)
    · replace hf := dg_t c3 hf
      refine lv_iload_n hx hb dX2_canStand_37 rfl (lv_at hl 3 rfl) ?_
      refine lv_iconst (v := 1) hx hb dX2_canStand_38 (by decide) ?_
      refine lv_isub hx hb dX2_canStand_39 ?_
      refine lv_bipush (v := 6) hx hb dX2_canStand_40 (by decide) ?_
      refine lv_irem hx hb dX2_canStand_42 (by decide) ?_
      by_cases c4 : ((a1 - (1:Int32)) - (a1 - (1:Int32)) / (6:Int32) * (6:Int32)) = (1:Int32)
      · replace hf := dg_t c4 hf
        refine lv_tableIn (off := 33) (tgt := 76) hx hb dX2_canStand_43 (by rw [c4]; decide) (by rw [c4]; decide) (by rw [c4]; decide) (by decide) ?_
        refine lv_iload_n hx hb dX2_canStand_76 rfl (lv_at hl 1 rfl) ?_
        refine lv_bipush (v := 45) hx hb dX2_canStand_77 (by decide) ?_
        refine lv_icmp_eq (tgt := 89) hx hb dX2_canStand_79 (by decide) (fun c5 => ?_) (fun c5 => ?_)
        · replace hf := dg_t c5 hf
          refine lv_iconst (v := 1) hx hb dX2_canStand_89 (by decide) ?_
          refine lv_goto (tgt := 94) hx hb dX2_canStand_90 (by decide) ?_
          have he := Option.some.inj hf
          have hP9 := hP
          have hD9 := hD
          exact W.zret (v := (1:Int32)) (ty := .boolean) hx hb hr (by decide) (fun t eth hW => ⟨⟨(1:Int32), (), rfl, he.symm, by rw [eth]; exact hP9, va_K.moved hW.alike hK, hD9⟩, hS.F eth⟩) hS.2.2 dX2_canStand_94
        · replace hf := dg_f c5 hf
          refine lv_iload_n hx hb dX2_canStand_82 rfl (lv_at hl 1 rfl) ?_
          obtain ⟨x6, hx6, hf⟩ := dg_bind hf
          have hPc : va_P (dC, dI) vwCl [] s.heap := hP.sub [] rfl
          have hDc : va_D A [] := hD.sub [] (by decide) rfl
          have hFc := va_free (wc := []) hD hS hA [] rfl
          refine va_calli (va_runS (As := [.int (vt_letters a1.toNatClampNeg)]) (rest := []) ⟨hx, hb, hml, hown, hts⟩ (k_X2_isWordLetter l dC dI cI cJ cZ s.heap.size (vt_letters a1.toNatClampNeg) N x6 hx6) (va_cwS 1 hts gX2_canStand_X2_isWordLetter rfl rfl rfl hd_X2_isWordLetter ⟨Nat.le_of_ble_eq_true rfl, Nat.le_of_ble_eq_true rfl⟩) ⟨blind_pc, pre_pc hPc hK hDc⟩ rfl rfl hl.1 rfl (lv_room (Nat.le_of_ble_eq_true rfl)) dX2_canStand_83 ⟨Nat.zero_le _, Nat.zero_le _⟩) hS (fun q _ h => hFc q h) hFc (fun r u t H1 locs eth hvm hw hB hz1 hk1 hS => ?_)
          obtain ⟨hP1, hK1, hD1⟩ := hB
          rw [eth] at hP1
          subst hw
          obtain ⟨hP, hD⟩ := va_join (wr := [(ht, .inr (2, [.ref ht_letters, .int vt_size])), (ht_letters, .inl (cI, 32, .inl vt_letters))]) (w1 := []) hP hD [] [0, 1] rfl rfl (by decide) (by decide) hk1 hFc hP1 hD1
          clear hP1 hK1 hD1 hPc hDc hFc hk1 hz1 hvm eth
          generalize H1 = H at hP hS ⊢
          have hP : va_P (dC, dI) vwCl [(ht, .inr (2, [.ref ht_letters, .int vt_size])), (ht_letters, .inl (cI, 32, .inl vt_letters))] H := hP
          have hD : va_D A [(ht, .inr (2, [.ref ht_letters, .int vt_size])), (ht_letters, .inl (cI, 32, .inl vt_letters))] := hD
          refine lv_if_eq (tgt := 93) hx hb dX2_canStand_86 (by decide) (fun c7 => ?_) (fun c7 => ?_)
          · replace hf := dg_t c7 hf
            refine lv_iconst (v := 0) hx hb dX2_canStand_93 (by decide) ?_
            have he := Option.some.inj hf
            have hP9 := hP
            have hD9 := hD
            exact W.zret (v := (0:Int32)) (ty := .boolean) hx hb hr (by decide) (fun t eth hW => ⟨⟨(0:Int32), (), rfl, he.symm, by rw [eth]; exact hP9, va_K.moved hW.alike hK, hD9⟩, hS.F eth⟩) hS.2.2 dX2_canStand_94
          · replace hf := dg_f c7 hf
            refine lv_iconst (v := 1) hx hb dX2_canStand_89 (by decide) ?_
            refine lv_goto (tgt := 94) hx hb dX2_canStand_90 (by decide) ?_
            have he := Option.some.inj hf
            have hP9 := hP
            have hD9 := hD
            exact W.zret (v := (1:Int32)) (ty := .boolean) hx hb hr (by decide) (fun t eth hW => ⟨⟨(1:Int32), (), rfl, he.symm, by rw [eth]; exact hP9, va_K.moved hW.alike hK, hD9⟩, hS.F eth⟩) hS.2.2 dX2_canStand_94
      · replace hf := dg_f c4 hf
        by_cases c8 : ((a1 - (1:Int32)) - (a1 - (1:Int32)) / (6:Int32) * (6:Int32)) = (2:Int32)
        · replace hf := dg_t c8 hf
          refine lv_tableIn (off := 33) (tgt := 76) hx hb dX2_canStand_43 (by rw [c8]; decide) (by rw [c8]; decide) (by rw [c8]; decide) (by decide) ?_
          refine lv_iload_n hx hb dX2_canStand_76 rfl (lv_at hl 1 rfl) ?_
          refine lv_bipush (v := 45) hx hb dX2_canStand_77 (by decide) ?_
          refine lv_icmp_eq (tgt := 89) hx hb dX2_canStand_79 (by decide) (fun c9 => ?_) (fun c9 => ?_)
          · replace hf := dg_t c9 hf
            refine lv_iconst (v := 1) hx hb dX2_canStand_89 (by decide) ?_
            refine lv_goto (tgt := 94) hx hb dX2_canStand_90 (by decide) ?_
            have he := Option.some.inj hf
            have hP9 := hP
            have hD9 := hD
            exact W.zret (v := (1:Int32)) (ty := .boolean) hx hb hr (by decide) (fun t eth hW => ⟨⟨(1:Int32), (), rfl, he.symm, by rw [eth]; exact hP9, va_K.moved hW.alike hK, hD9⟩, hS.F eth⟩) hS.2.2 dX2_canStand_94
          · replace hf := dg_f c9 hf
            refine lv_iload_n hx hb dX2_canStand_82 rfl (lv_at hl 1 rfl) ?_
            obtain ⟨x10, hx10, hf⟩ := dg_bind hf
            have hPc : va_P (dC, dI) vwCl [] s.heap := hP.sub [] rfl
            have hDc : va_D A [] := hD.sub [] (by decide) rfl
            have hFc := va_free (wc := []) hD hS hA [] rfl
            refine va_calli (va_runS (As := [.int (vt_letters a1.toNatClampNeg)]) (rest := []) ⟨hx, hb, hml, hown, hts⟩ (k_X2_isWordLetter l dC dI cI cJ cZ s.heap.size (vt_letters a1.toNatClampNeg) N x10 hx10) (va_cwS 1 hts gX2_canStand_X2_isWordLetter rfl rfl rfl hd_X2_isWordLetter ⟨Nat.le_of_ble_eq_true rfl, Nat.le_of_ble_eq_true rfl⟩) ⟨blind_pc, pre_pc hPc hK hDc⟩ rfl rfl hl.1 rfl (lv_room (Nat.le_of_ble_eq_true rfl)) dX2_canStand_83 ⟨Nat.zero_le _, Nat.zero_le _⟩) hS (fun q _ h => hFc q h) hFc (fun r u t H1 locs eth hvm hw hB hz1 hk1 hS => ?_)
            obtain ⟨hP1, hK1, hD1⟩ := hB
            rw [eth] at hP1
            subst hw
            obtain ⟨hP, hD⟩ := va_join (wr := [(ht, .inr (2, [.ref ht_letters, .int vt_size])), (ht_letters, .inl (cI, 32, .inl vt_letters))]) (w1 := []) hP hD [] [0, 1] rfl rfl (by decide) (by decide) hk1 hFc hP1 hD1
            clear hP1 hK1 hD1 hPc hDc hFc hk1 hz1 hvm eth
            generalize H1 = H at hP hS ⊢
            have hP : va_P (dC, dI) vwCl [(ht, .inr (2, [.ref ht_letters, .int vt_size])), (ht_letters, .inl (cI, 32, .inl vt_letters))] H := hP
            have hD : va_D A [(ht, .inr (2, [.ref ht_letters, .int vt_size])), (ht_letters, .inl (cI, 32, .inl vt_letters))] := hD
            refine lv_if_eq (tgt := 93) hx hb dX2_canStand_86 (by decide) (fun c11 => ?_) (fun c11 => ?_)
            · replace hf := dg_t c11 hf
              refine lv_iconst (v := 0) hx hb dX2_canStand_93 (by decide) ?_
              have he := Option.some.inj hf
              have hP9 := hP
              have hD9 := hD
              exact W.zret (v := (0:Int32)) (ty := .boolean) hx hb hr (by decide) (fun t eth hW => ⟨⟨(0:Int32), (), rfl, he.symm, by rw [eth]; exact hP9, va_K.moved hW.alike hK, hD9⟩, hS.F eth⟩) hS.2.2 dX2_canStand_94
            · replace hf := dg_f c11 hf
              refine lv_iconst (v := 1) hx hb dX2_canStand_89 (by decide) ?_
              refine lv_goto (tgt := 94) hx hb dX2_canStand_90 (by decide) ?_
              have he := Option.some.inj hf
              have hP9 := hP
              have hD9 := hD
              exact W.zret (v := (1:Int32)) (ty := .boolean) hx hb hr (by decide) (fun t eth hW => ⟨⟨(1:Int32), (), rfl, he.symm, by rw [eth]; exact hP9, va_K.moved hW.alike hK, hD9⟩, hS.F eth⟩) hS.2.2 dX2_canStand_94
        · replace hf := dg_f c8 hf
          by_cases c12 : ((a1 - (1:Int32)) - (a1 - (1:Int32)) / (6:Int32) * (6:Int32)) = (3:Int32)
          · replace hf := dg_t c12 hf
            refine lv_tableIn (off := 52) (tgt := 95) hx hb dX2_canStand_43 (by rw [c12]; decide) (by rw [c12]; decide) (by rw [c12]; decide) (by decide) ?_
            refine lv_iload_n hx hb dX2_canStand_95 rfl (lv_at hl 1 rfl) ?_
            refine lv_aload_n hx hb dX2_canStand_96 rfl (lv_at hl 2 rfl) ?_
            refine va_get (D := (dC, dI)) (ci := 2) (v := .ref ht_letters) (C := RX2) (T := TX2) (N := 2) hx hb hts hinX2 hown hK hP 0 rfl rfl 0 (by decide) hw0 (fun _ h9 => h9) rfl dX2_canStand_97 ?_
            refine lv_iload_n hx hb dX2_canStand_100 rfl (lv_at hl 3 rfl) ?_
            refine lv_iconst (v := 1) hx hb dX2_canStand_101 (by decide) ?_
            refine lv_isub hx hb dX2_canStand_102 ?_
            obtain ⟨hi13, hf⟩ := dg_ix hf
            refine va_iald hx hb hK hP 1 0 rfl rfl hi13 dX2_canStand_103 ?_
            obtain ⟨x14, hx14, hf⟩ := dg_bind hf
            have hPc : va_P (dC, dI) vwCl [] s.heap := hP.sub [] rfl
            have hDc : va_D A [] := hD.sub [] (by decide) rfl
            have hFc := va_free (wc := []) hD hS hA [] rfl
            refine va_calli (va_runS (As := [.int (vt_letters a1.toNatClampNeg), .int (vt_letters (a1 - (1:Int32)).toNatClampNeg)]) (rest := []) ⟨hx, hb, hml, hown, hts⟩ (k_X2_canBeTo l dC dI cI cJ cZ s.heap.size (vt_letters a1.toNatClampNeg) (vt_letters (a1 - (1:Int32)).toNatClampNeg) N x14 hx14) (va_cwS 2 hts gX2_canStand_X2_canBeTo rfl rfl rfl hd_X2_canBeTo ⟨Nat.le_of_ble_eq_true rfl, Nat.le_of_ble_eq_true rfl⟩) ⟨blind_pc, pre_pc hPc hK hDc⟩ rfl rfl hl.1 rfl (lv_room (Nat.le_of_ble_eq_true rfl)) dX2_canStand_104 ⟨Nat.zero_le _, Nat.zero_le _⟩) hS (fun q _ h => hFc q h) hFc (fun r u t H1 locs eth hvm hw hB hz1 hk1 hS => ?_)
            obtain ⟨hP1, hK1, hD1⟩ := hB
            rw [eth] at hP1
            subst hw
            obtain ⟨hP, hD⟩ := va_join (wr := [(ht, .inr (2, [.ref ht_letters, .int vt_size])), (ht_letters, .inl (cI, 32, .inl vt_letters))]) (w1 := []) hP hD [] [0, 1] rfl rfl (by decide) (by decide) hk1 hFc hP1 hD1
            clear hP1 hK1 hD1 hPc hDc hFc hk1 hz1 hvm eth
            generalize H1 = H at hP hS ⊢
            have hP : va_P (dC, dI) vwCl [(ht, .inr (2, [.ref ht_letters, .int vt_size])), (ht_letters, .inl (cI, 32, .inl vt_letters))] H := hP
            have hD : va_D A [(ht, .inr (2, [.ref ht_letters, .int vt_size])), (ht_letters, .inl (cI, 32, .inl vt_letters))] := hD
            obtain ⟨hz15, hf⟩ := dg_z hf
            have he := Option.some.inj hf
            have hP9 := hP
            have hD9 := hD
            exact W.zret (v := x14) (ty := .boolean) hx hb hr hz15 (fun t eth hW => ⟨⟨x14, (), rfl, he.symm, by rw [eth]; exact hP9, va_K.moved hW.alike hK, hD9⟩, hS.F eth⟩) hS.2.2 dX2_canStand_107
          · replace hf := dg_f c12 hf
            by_cases c16 : ((a1 - (1:Int32)) - (a1 - (1:Int32)) / (6:Int32) * (6:Int32)) = (4:Int32)
            · replace hf := dg_t c16 hf
              refine lv_tableIn (off := 65) (tgt := 108) hx hb dX2_canStand_43 (by rw [c16]; decide) (by rw [c16]; decide) (by rw [c16]; decide) (by decide) ?_
              refine lv_iload_n hx hb dX2_canStand_108 rfl (lv_at hl 1 rfl) ?_
              refine lv_bipush (v := 48) hx hb dX2_canStand_109 (by decide) ?_
              refine lv_icmp_lt (tgt := 124) hx hb dX2_canStand_111 (by decide) (fun c17 => ?_) (fun c17 => ?_)
              · replace hf := dg_t c17 hf
                refine lv_iconst (v := 0) hx hb dX2_canStand_124 (by decide) ?_
                have he := Option.some.inj hf
                have hP9 := hP
                have hD9 := hD
                exact W.zret (v := (0:Int32)) (ty := .boolean) hx hb hr (by decide) (fun t eth hW => ⟨⟨(0:Int32), (), rfl, he.symm, by rw [eth]; exact hP9, va_K.moved hW.alike hK, hD9⟩, hS.F eth⟩) hS.2.2 dX2_canStand_125
              · replace hf := dg_f c17 hf
                refine lv_iload_n hx hb dX2_canStand_114 rfl (lv_at hl 1 rfl) ?_
                refine lv_bipush (v := 57) hx hb dX2_canStand_115 (by decide) ?_
                refine lv_icmp_gt (tgt := 124) hx hb dX2_canStand_117 (by decide) (fun c18 => ?_) (fun c18 => ?_)
                · replace hf := dg_t c18 hf
                  refine lv_iconst (v := 0) hx hb dX2_canStand_124 (by decide) ?_
                  have he := Option.some.inj hf
                  have hP9 := hP
                  have hD9 := hD
                  exact W.zret (v := (0:Int32)) (ty := .boolean) hx hb hr (by decide) (fun t eth hW => ⟨⟨(0:Int32), (), rfl, he.symm, by rw [eth]; exact hP9, va_K.moved hW.alike hK, hD9⟩, hS.F eth⟩) hS.2.2 dX2_canStand_125
                · replace hf := dg_f c18 hf
                  refine lv_iconst (v := 1) hx hb dX2_canStand_120 (by decide) ?_
                  refine lv_goto (tgt := 125) hx hb dX2_canStand_121 (by decide) ?_
                  have he := Option.some.inj hf
                  have hP9 := hP
                  have hD9 := hD
                  exact W.zret (v := (1:Int32)) (ty := .boolean) hx hb hr (by decide) (fun t eth hW => ⟨⟨(1:Int32), (), rfl, he.symm, by rw [eth]; exact hP9, va_K.moved hW.alike hK, hD9⟩, hS.F eth⟩) hS.2.2 dX2_canStand_125
            · replace hf := dg_f c16 hf
              by_cases c19 : ((a1 - (1:Int32)) - (a1 - (1:Int32)) / (6:Int32) * (6:Int32)) = (5:Int32)
              · replace hf := dg_t c19 hf
                refine lv_tableIn (off := 83) (tgt := 126) hx hb dX2_canStand_43 (by rw [c19]; decide) (by rw [c19]; decide) (by rw [c19]; decide) (by decide) ?_
                refine lv_iload_n hx hb dX2_canStand_126 rfl (lv_at hl 1 rfl) ?_
                refine lv_bipush (v := 45) hx hb dX2_canStand_127 (by decide) ?_
                refine lv_icmp_eq (tgt := 146) hx hb dX2_canStand_129 (by decide) (fun c20 => ?_) (fun c20 => ?_)
                · replace hf := dg_t c20 hf
                  refine lv_iconst (v := 1) hx hb dX2_canStand_146 (by decide) ?_
                  refine lv_goto (tgt := 151) hx hb dX2_canStand_147 (by decide) ?_
                  have he := Option.some.inj hf
                  have hP9 := hP
                  have hD9 := hD
                  exact W.zret (v := (1:Int32)) (ty := .boolean) hx hb hr (by decide) (fun t eth hW => ⟨⟨(1:Int32), (), rfl, he.symm, by rw [eth]; exact hP9, va_K.moved hW.alike hK, hD9⟩, hS.F eth⟩) hS.2.2 dX2_canStand_151
                · replace hf := dg_f c20 hf
                  refine lv_iload_n hx hb dX2_canStand_132 rfl (lv_at hl 1 rfl) ?_
                  refine lv_bipush (v := 48) hx hb dX2_canStand_133 (by decide) ?_
                  refine lv_icmp_lt (tgt := 150) hx hb dX2_canStand_135 (by decide) (fun c21 => ?_) (fun c21 => ?_)
                  · replace hf := dg_t c21 hf
                    refine lv_iconst (v := 0) hx hb dX2_canStand_150 (by decide) ?_
                    have he := Option.some.inj hf
                    have hP9 := hP
                    have hD9 := hD
                    exact W.zret (v := (0:Int32)) (ty := .boolean) hx hb hr (by decide) (fun t eth hW => ⟨⟨(0:Int32), (), rfl, he.symm, by rw [eth]; exact hP9, va_K.moved hW.alike hK, hD9⟩, hS.F eth⟩) hS.2.2 dX2_canStand_151
                  · replace hf := dg_f c21 hf
                    refine lv_iload_n hx hb dX2_canStand_138 rfl (lv_at hl 1 rfl) ?_
                    refine lv_bipush (v := 48) hx hb dX2_canStand_139 (by decide) ?_
                    refine lv_iload_n hx hb dX2_canStand_141 rfl (lv_at hl 0 rfl) ?_
                    refine lv_iadd hx hb dX2_canStand_142 ?_
                    refine lv_icmp_ge (tgt := 150) hx hb dX2_canStand_143 (by decide) (fun c22 => ?_) (fun c22 => ?_)
                    · replace hf := dg_t c22 hf
                      refine lv_iconst (v := 0) hx hb dX2_canStand_150 (by decide) ?_
                      have he := Option.some.inj hf
                      have hP9 := hP
                      have hD9 := hD
                      exact W.zret (v := (0:Int32)) (ty := .boolean) hx hb hr (by decide) (fun t eth hW => ⟨⟨(0:Int32), (), rfl, he.symm, by rw [eth]; exact hP9, va_K.moved hW.alike hK, hD9⟩, hS.F eth⟩) hS.2.2 dX2_canStand_151
                    · replace hf := dg_f c22 hf
                      refine lv_iconst (v := 1) hx hb dX2_canStand_146 (by decide) ?_
                      refine lv_goto (tgt := 151) hx hb dX2_canStand_147 (by decide) ?_
                      have he := Option.some.inj hf
                      have hP9 := hP
                      have hD9 := hD
                      exact W.zret (v := (1:Int32)) (ty := .boolean) hx hb hr (by decide) (fun t eth hW => ⟨⟨(1:Int32), (), rfl, he.symm, by rw [eth]; exact hP9, va_K.moved hW.alike hK, hD9⟩, hS.F eth⟩) hS.2.2 dX2_canStand_151
              · replace hf := dg_f c19 hf
                refine lv_tableOut (tgt := 152) hx hb dX2_canStand_43 (by have qc4 := lv_neT (a := 1) c4 (by decide); have qc8 := lv_neT (a := 2) c8 (by decide); have qc12 := lv_neT (a := 3) c12 (by decide); have qc16 := lv_neT (a := 4) c16 (by decide); have qc19 := lv_neT (a := 5) c19 (by decide); omega) (by decide) ?_
                refine lv_iload_n hx hb dX2_canStand_152 rfl (lv_at hl 1 rfl) ?_
                refine lv_bipush (v := 75) hx hb dX2_canStand_153 (by decide) ?_
                refine lv_icmp_ne (tgt := 162) hx hb dX2_canStand_155 (by decide) (fun c23 => ?_) (fun c23 => ?_)
                · replace hf := dg_f c23 hf
                  refine lv_iconst (v := 0) hx hb dX2_canStand_162 (by decide) ?_
                  have he := Option.some.inj hf
                  have hP9 := hP
                  have hD9 := hD
                  exact W.zret (v := (0:Int32)) (ty := .boolean) hx hb hr (by decide) (fun t eth hW => ⟨⟨(0:Int32), (), rfl, he.symm, by rw [eth]; exact hP9, va_K.moved hW.alike hK, hD9⟩, hS.F eth⟩) hS.2.2 dX2_canStand_163
                · replace hf := dg_t c23 hf
                  refine lv_iconst (v := 1) hx hb dX2_canStand_158 (by decide) ?_
                  refine lv_goto (tgt := 163) hx hb dX2_canStand_159 (by decide) ?_
                  have he := Option.some.inj hf
                  have hP9 := hP
                  have hD9 := hD
                  exact W.zret (v := (1:Int32)) (ty := .boolean) hx hb hr (by decide) (fun t eth hW => ⟨⟨(1:Int32), (), rfl, he.symm, by rw [eth]; exact hP9, va_K.moved hW.alike hK, hD9⟩, hS.F eth⟩) hS.2.2 dX2_canStand_163
    · replace hf := dg_f c3 hf
      refine lv_iconst (v := 0) hx hb dX2_canStand_35 (by decide) ?_
      have he := Option.some.inj hf
      have hP9 := hP
      have hD9 := hD
      exact W.zret (v := (0:Int32)) (ty := .boolean) hx hb hr (by decide) (fun t eth hW => ⟨⟨(0:Int32), (), rfl, he.symm, by rw [eth]; exact hP9, va_K.moved hW.alike hK, hD9⟩, hS.F eth⟩) hS.2.2 dX2_canStand_36
  · replace hf := dg_t c2 hf
    refine lv_iload_n hx hb dX2_canStand_11 rfl (lv_at hl 0 rfl) ?_
    refine lv_bipush (v := 67) hx hb dX2_canStand_12 (by decide) ?_
    refine lv_icmp_ne (tgt := 21) hx hb dX2_canStand_14 (by decide) (fun c24 => ?_) (fun c24 => ?_)
    · replace hf := dg_f c24 hf
      refine lv_iconst (v := 0) hx hb dX2_canStand_21 (by decide) ?_
      have he := Option.some.inj hf
      have hP9 := hP
      have hD9 := hD
      exact W.zret (v := (0:Int32)) (ty := .boolean) hx hb hr (by decide) (fun t eth hW => ⟨⟨(0:Int32), (), rfl, he.symm, by rw [eth]; exact hP9, va_K.moved hW.alike hK, hD9⟩, hS.F eth⟩) hS.2.2 dX2_canStand_22
    · replace hf := dg_t c24 hf
      refine lv_iconst (v := 1) hx hb dX2_canStand_17 (by decide) ?_
      refine lv_goto (tgt := 22) hx hb dX2_canStand_18 (by decide) ?_
      have he := Option.some.inj hf
      have hP9 := hP
      have hD9 := hD
      exact W.zret (v := (1:Int32)) (ty := .boolean) hx hb hr (by decide) (fun t eth hW => ⟨⟨(1:Int32), (), rfl, he.symm, by rw [eth]; exact hP9, va_K.moved hW.alike hK, hD9⟩, hS.F eth⟩) hS.2.2 dX2_canStand_22
