/-! the class: how many rows are like an earlier one; whether none is -/
theorem blX_loop {N n l : Nat} {D F T I C : Nat → Nat} {bd bf bt bi bc : Nat → Int32} (hN : 200000 ≤ N) (hB : HabB n D F T I C) (hX : HabX n D F T I C bd bf bt bi bc) (hl : l ≤ 5) (kk : Int32 → Int32 → (Nat → Int32) → (Nat → Int64) → Option (Int32 × (Nat → Int32) × (Nat → Int64))) :
    ∀ (j g k : Nat) (P : Nat → Int32) (L : Nat → Int64), k + j = 4 ^ l → j < g → DrX D F T I C l n (2 ^ n - 1) k L → ∃ P' L', f_X5_blindness_29 N (nI n) bd bf bt bi bc (nI (2 ^ n - 1)) (nI (2 * 4 ^ l)) kk g (nI (k - dcN D F T I C l n (2 ^ n - 1) k)) (nI (4 ^ l + k)) P L = kk (nI (4 ^ l - dcN D F T I C l n (2 ^ n - 1) (4 ^ l))) (nI (2 * 4 ^ l)) P' L' := by
  have hp := p4_le5 hl
  have hn := hB.1
  have h16 : 2 ^ n ≤ 16 := Nat.pow_le_pow_right (n := 2) (by decide) hn
  intro j
  induction j with
  | zero =>
    intro g k P L hk hg _
    obtain ⟨g', rfl⟩ : ∃ g', g = g' + 1 := ⟨g - 1, by omega⟩
    have : k = 4 ^ l := by omega
    subst this
    exact ⟨P, L, by rw [f_X5_blindness_29, if_pos (by rw [le_n (by omega) (by omega)]; omega), show 4 ^ l + 4 ^ l = 2 * 4 ^ l by omega]⟩
  | succ j ih =>
    intro g k P L hk hg hL
    obtain ⟨g', rfl⟩ : ∃ g', g = g' + 1 := ⟨g - 1, by omega⟩
    obtain ⟨P1, h1, hP1⟩ := tD P hN hB hX (show l ≤ 6 by omega) (show k < 4 ^ l by omega)
    obtain ⟨L1, h2, hL1⟩ := drX_s hN hB hl (show k < 4 ^ l by omega) hL
    have h3 : f_X1_pagesOf N (nI (2 ^ n - 1)) (nI n) P1 = some (kX D F T I C l n (2 ^ n - 1) k) := pO hN hn (by omega) (kXf_lt hB hl (show k < 4 ^ l by omega)) (fun c hc => hP1 c hc)
    have hle := dcN_le (D := D) (F := F) (T := T) (I := I) (C := C) (l := l) (n := n) (s := 2 ^ n - 1) (k := k)
    obtain ⟨P', L', st⟩ := ih g' (k + 1) P1 L1 (by omega) (by omega) hL1
    refine ⟨P', L', ?_⟩
    rw [f_X5_blindness_29, if_neg (by rw [le_n (by omega) (by omega)]; omega), h1, Option.bind_some, h3, Option.bind_some, h2, Option.bind_some, A1r, A1r, Nat.add_assoc]
    dsimp only
    by_cases q : nwB D F T I C l n (2 ^ n - 1) k = true
    · rw [if_neg (by rw [if_pos q]; exact n10)]
      have e : dcN D F T I C l n (2 ^ n - 1) (k + 1) = dcN D F T I C l n (2 ^ n - 1) k + 1 := cnt_y q
      rw [e, show k + 1 - (dcN D F T I C l n (2 ^ n - 1) k + 1) = k - dcN D F T I C l n (2 ^ n - 1) k by omega] at st
      exact st
    · rw [if_pos (by rw [if_neg q])]
      have e : dcN D F T I C l n (2 ^ n - 1) (k + 1) = dcN D F T I C l n (2 ^ n - 1) k := cnt_f q
      rw [e, show k + 1 - dcN D F T I C l n (2 ^ n - 1) k = k - dcN D F T I C l n (2 ^ n - 1) k + 1 by omega] at st
      exact st
theorem blX {N n l : Nat} {D F T I C : Nat → Nat} {bd bf bt bi bc : Nat → Int32} (P : Nat → Int32) (L : Nat → Int64) (hN : 200000 ≤ N) (hB : HabB n D F T I C) (hX : HabX n D F T I C bd bf bt bi bc) (hl : l ≤ 5) : ∃ P' L', f_X5_blindness N (nI l) (nI n) bd bf bt bi bc P L = some (nI (4 ^ l - dcN D F T I C l n (2 ^ n - 1) (4 ^ l)), (P', L')) := by
  have hp := p4_le5 hl
  obtain ⟨L1, c1, c2⟩ := drX_0 (N := N) (D := D) (F := F) (T := T) (I := I) (C := C) (l := l) (n := n) (s := 2 ^ n - 1) L hN
  obtain ⟨P', L', h⟩ := blX_loop hN hB hX hl (fun z3_29 z5_29 zvt_bench_pages_29 zvt_drawers_lying_29 => some (z3_29, (zvt_bench_pages_29, zvt_drawers_lying_29))) (4 ^ l) N 0 P L1 (by omega) (by omega) c2
  refine ⟨P', L', ?_⟩
  unfold f_X5_blindness f_X1_everybody
  rw [c1, Option.bind_some, Option.bind_some, full4 n hB.1, eO (by omega), Option.bind_some, fO (by omega), Option.bind_some]
  exact h
theorem taX_loop {N n l s : Nat} {D F T I C : Nat → Nat} {bd bf bt bi bc : Nat → Int32} (hN : 200000 ≤ N) (hB : HabB n D F T I C) (hX : HabX n D F T I C bd bf bt bi bc) (hl : l ≤ 5) (hs : s < 16) :
    ∀ (j g k : Nat) (P : Nat → Int32) (L : Nat → Int64), k + j = 4 ^ l → j < g → DrX D F T I C l n s k L → (∀ i, i < k → nwB D F T I C l n s i = true) → ∃ P' L', f_X5_tellsAllApart_18 N (nI s) (nI n) bd bf bt bi bc (nI (2 * 4 ^ l)) (fun z4_18 zvt_bench_pages_18 zvt_drawers_lying_18 => some ((1:Int32), (zvt_bench_pages_18, zvt_drawers_lying_18))) g (nI (4 ^ l + k)) P L = some ((if tAB D F T I C l n s = true then (1:Int32) else 0), (P', L')) := by
  have hp := p4_le5 hl
  have hn := hB.1
  intro j
  induction j with
  | zero =>
    intro g k P L hk hg _ ha
    obtain ⟨g', rfl⟩ : ∃ g', g = g' + 1 := ⟨g - 1, by omega⟩
    have : k = 4 ^ l := by omega
    subst this
    have ht : tAB D F T I C l n s = true := (allb_iff _ _).mpr ha
    exact ⟨P, L, by rw [f_X5_tellsAllApart_18, if_pos (by rw [le_n (by omega) (by omega)]; omega), if_pos ht]⟩
  | succ j ih =>
    intro g k P L hk hg hL ha
    obtain ⟨g', rfl⟩ : ∃ g', g = g' + 1 := ⟨g - 1, by omega⟩
    obtain ⟨P1, h1, hP1⟩ := tD P hN hB hX (show l ≤ 6 by omega) (show k < 4 ^ l by omega)
    obtain ⟨L1, h2, hL1⟩ := drX_s hN hB hl (show k < 4 ^ l by omega) hL
    have h3 : f_X1_pagesOf N (nI s) (nI n) P1 = some (kX D F T I C l n s k) := pO hN hn hs (kXf_lt hB hl (show k < 4 ^ l by omega)) (fun c hc => hP1 c hc)
    rw [f_X5_tellsAllApart_18, if_neg (by rw [le_n (by omega) (by omega)]; omega), h1, Option.bind_some, h3, Option.bind_some, h2, Option.bind_some, A1r, Nat.add_assoc]
    dsimp only
    by_cases q : nwB D F T I C l n s k = true
    · rw [if_neg (by rw [if_pos q]; exact n10)]
      refine ih g' (k + 1) P1 L1 (by omega) (by omega) hL1 (fun i hi => ?_)
      by_cases e : i = k
      · rw [e]; exact q
      · exact ha i (by omega)
    · have ht : ¬ tAB D F T I C l n s = true := fun z => q ((allb_iff _ _).mp z k (by omega))
      rw [if_pos (by rw [if_neg q]), if_neg ht]
      exact ⟨P1, L1, rfl⟩
theorem taX {N n l s : Nat} {D F T I C : Nat → Nat} {bd bf bt bi bc : Nat → Int32} (P : Nat → Int32) (L : Nat → Int64) (hN : 200000 ≤ N) (hB : HabB n D F T I C) (hX : HabX n D F T I C bd bf bt bi bc) (hl : l ≤ 5) (hs : s < 16) : ∃ P' L', f_X5_tellsAllApart N (nI s) (nI l) (nI n) bd bf bt bi bc P L = some ((if tAB D F T I C l n s = true then (1:Int32) else 0), (P', L')) := by
  have hp := p4_le5 hl
  obtain ⟨L1, c1, c2⟩ := drX_0 (N := N) (D := D) (F := F) (T := T) (I := I) (C := C) (l := l) (n := n) (s := s) L hN
  obtain ⟨P', L', h⟩ := taX_loop hN hB hX hl hs (4 ^ l) N 0 P L1 (by omega) (by omega) c2 (fun i hi => by omega)
  refine ⟨P', L', ?_⟩
  unfold f_X5_tellsAllApart
  rw [c1, Option.bind_some, eO (by omega), Option.bind_some, fO (by omega), Option.bind_some]
  exact h
