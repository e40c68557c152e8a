theorem u32_s {n l s k : Nat} {D F T I C : Nat → Nat} {A K K' : Nat → Int32} {d : Nat} (hk : k < 1024) (h : DrM D F T I C l n s k A K) (e2 : ∀ x, x < 4 → K' (4 * k + x) = kM D F T I C l n s k x) (e3 : ∀ y, y < 4 * k → K' y = K y) (hd : d < 8192) (hb : ∀ d', d' < d → bM D F T I C l n s A ((hM (kM D F T I C l n s k) + d') % 8192) ≠ none ∧ bM D F T I C l n s A ((hM (kM D F T I C l n s k) + d') % 8192) ≠ some (kM D F T I C l n s k))
    (hh : ((∃ i, i < k ∧ kM D F T I C l n s i = kM D F T I C l n s k) ∧ bM D F T I C l n s A ((hM (kM D F T I C l n s k) + d) % 8192) = some (kM D F T I C l n s k)) ∨ (¬ (∃ i, i < k ∧ kM D F T I C l n s i = kM D F T I C l n s k) ∧ bM D F T I C l n s A ((hM (kM D F T I C l n s k) + d) % 8192) = none)) :
    DrM D F T I C l n s (k + 1) (upd A ((hM (kM D F T I C l n s k) + d) % 8192) (nI k)) K' := by
  obtain ⟨h1, h2, h3, h4⟩ := h
  have eb : bM D F T I C l n s (upd A ((hM (kM D F T I C l n s k) + d) % 8192) (nI k)) = fun x => if x = (hM (kM D F T I C l n s k) + d) % 8192 then some (kM D F T I C l n s k) else bM D F T I C l n s A x := by
    funext x
    by_cases z : x = (hM (kM D F T I C l n s k) + d) % 8192
    · rw [if_pos z]
      unfold bM
      rw [z, up_s, if_neg (by rw [m9_n (by omega)]; exact id), cl_n (by omega)]
    · rw [if_neg z]
      unfold bM
      rw [up_n z]
  refine ⟨fun x hx => ?_, fun i hi c hc => ?_, ?_, ?_⟩
  · by_cases z : x = (hM (kM D F T I C l n s k) + d) % 8192
    · rw [z, up_s]; exact Or.inr ⟨k, by omega, rfl⟩
    · rw [up_n z]
      rcases h1 x hx with e | ⟨i, hi, e⟩
      · exact Or.inl e
      · exact Or.inr ⟨i, by omega, e⟩
  · by_cases e : i = k
    · subst e; exact e2 c hc
    · rw [e3 _ (by omega)]; exact h2 i (by omega) c hc
  · have put := tab_put h3 hd hb hh
    have es : (fun q => (∃ i, i < k ∧ kM D F T I C l n s i = q) ∨ q = kM D F T I C l n s k) = (fun q => ∃ i, i < k + 1 ∧ kM D F T I C l n s i = q) := by
      funext q
      apply propext
      constructor
      · rintro (⟨i, hi, e⟩ | e)
        · exact ⟨i, by omega, e⟩
        · exact ⟨k, by omega, e.symm⟩
      · rintro ⟨i, hi, e⟩
        by_cases w : i = k
        · subst w; exact Or.inr e.symm
        · exact Or.inl ⟨i, by omega, e⟩
    rw [es] at put
    rw [eb]
    exact put
  · have := cnt_upd (p := fun x => (bM D F T I C l n s A x).isSome) (q := fun x => (bM D F T I C l n s (upd A ((hM (kM D F T I C l n s k) + d) % 8192) (nI k)) x).isSome) (y := (hM (kM D F T I C l n s k) + d) % 8192) (fun x hx => by rw [eb]; simp only [if_neg hx]) 8192
    have h9 : (if (hM (kM D F T I C l n s k) + d) % 8192 < 8192 then 1 else 0) ≤ 1 := by split <;> omega
    omega
theorem u32 {N n l s : Nat} {D F T I C : Nat → Nat} {md mi mn : Nat → Int32} (r : Int32) (hN : 200000 ≤ N) (hB : HabB n D F T I C) (hM' : HabM n D F T I C md mi mn) (hl : l ≤ 5) (hs : s < 16) (kk : Int32 → Int32 → (Nat → Int32) → (Nat → Int32) → (Nat → Int32) → Option (Int32 × (Nat → Int32) × (Nat → Int32) × (Nat → Int32))) :
    ∀ (j g k : Nat) (P A K : Nat → Int32), k + j = 4 ^ l → j < g → DrM D (Fr F r) T I C l n s k A K → ∃ P' A' K', f_X6_unlike_32 N (nI l) (nI s) r (nI n) md mi mn kk g (nI (dcN D (Fr F r) T I C l n s k)) (nI k) P A K = kk (nI (dcN D (Fr F r) T I C l n s (4 ^ l))) (nI (4 ^ l)) P' A' K' := by
  have hp := p4_le5 hl
  have hn := hB.1
  have hBr := HabB_r hB r
  intro j
  induction j with
  | zero =>
    intro g k P A K hk hg _
    obtain ⟨g', rfl⟩ : ∃ g', g = g' + 1 := ⟨g - 1, by omega⟩
    have : k = 4 ^ l := by omega
    subst this
    exact ⟨P, A, K, by rw [f_X6_unlike_32, fT (by omega), Option.bind_some, if_pos (by rw [le_n (by omega) (by omega)]; omega)]⟩
  | succ j ih =>
    intro g k P A K hk hg hD
    obtain ⟨g', rfl⟩ : ∃ g', g = g' + 1 := ⟨g - 1, by omega⟩
    obtain ⟨P1, h1, hP1⟩ := lP r P hN hB hM' (show l ≤ 6 by omega) (show k < 4 ^ l by omega)
    obtain ⟨d, hd, hb, hh⟩ := tab_find hD.2.2.1 (tab_free hD.2.2.2 (by omega)) (kM D (Fr F r) T I C l n s k)
    have hsl : (hM (kM D (Fr F r) T I C l n s k) + d) % 8192 < 8192 := Nat.mod_lt _ (by decide)
    have hnw : nwB D (Fr F r) T I C l n s k = true ↔ ¬ ∃ i, i < k ∧ kM D (Fr F r) T I C l n s i = kM D (Fr F r) T I C l n s k := by
      rw [nwB_iff]
      constructor
      · rintro q ⟨i, hi, e⟩
        exact q ⟨i, hi, (kM_iff hBr hl (by omega) (by omega)).mp e⟩
      · rintro q ⟨i, hi, e⟩
        exact q ⟨i, hi, (kM_iff hBr hl (by omega) (by omega)).mpr e⟩
    rw [f_X6_unlike_32, fT (by omega), Option.bind_some, if_neg (by rw [le_n (by omega) (by omega)]; omega), mulL, add_n, h1, Option.bind_some]
    obtain ⟨K1, g1, g2, g3⟩ := u60 (N := N) (D := D) (F := Fr F r) (T := T) (I := I) (C := C) (l := l) hn hs (show k < 1024 by omega) hP1 (fun z6_60 z7_60 zvt_keys_60 => f_X6_unlike_144 N (nI k) A zvt_keys_60 (fun z7_144 => gI z7_144 8192 (if (A z7_144.toNatClampNeg) = (-9:Int32) then gI z7_144 8192 (f_X6_unlike_32 N (nI l) (nI s) r (nI n) md mi mn kk g' (nI (dcN D (Fr F r) T I C l n s k) + (1:Int32)) (nI k + (1:Int32)) P1 (upd A z7_144.toNatClampNeg (nI k)) zvt_keys_60) else gI z7_144 8192 (f_X6_unlike_32 N (nI l) (nI s) r (nI n) md mi mn kk g' (nI (dcN D (Fr F r) T I C l n s k) + (0:Int32)) (nI k + (1:Int32)) P1 (upd A z7_144.toNatClampNeg (nI k)) zvt_keys_60))) N (z6_60 &&& (8191:Int32))) 4 N 0 K (by omega) (by omega) (fun x hx => by omega)
    have hD1 := u32_s (show k < 1024 by omega) hD g2 g3 hd hb hh
    obtain ⟨P', A', K', st⟩ := ih g' (k + 1) P1 _ K1 (by omega) (by omega) hD1
    refine ⟨P', A', K', g1.trans ?_⟩
    have h0 := u144 (N := N) hN hn (show k < 1024 by omega) hD.1 (fun i hi c hc => by
      by_cases e : i = k
      · subst e; exact g2 c hc
      · rw [g3 _ (by omega)]; exact hD.2.1 i (by omega) c hc) hd hb (hh.elim (fun z => Or.inl z.2) (fun z => Or.inr z.2)) (fun z7_144 => gI z7_144 8192 (if (A z7_144.toNatClampNeg) = (-9:Int32) then gI z7_144 8192 (f_X6_unlike_32 N (nI l) (nI s) r (nI n) md mi mn kk g' (nI (dcN D (Fr F r) T I C l n s k) + (1:Int32)) (nI k + (1:Int32)) P1 (upd A z7_144.toNatClampNeg (nI k)) K1) else gI z7_144 8192 (f_X6_unlike_32 N (nI l) (nI s) r (nI n) md mi mn kk g' (nI (dcN D (Fr F r) T I C l n s k) + (0:Int32)) (nI k + (1:Int32)) P1 (upd A z7_144.toNatClampNeg (nI k)) K1))) d N 0 (by omega) (by omega)
    rw [Nat.add_zero] at h0
    rw [hM_e, and8191, h0]
    simp only [gI_n hsl (show (8192:Nat) < 2147483648 by decide), cl_n (show (hM (kM D (Fr F r) T I C l n s k) + d) % 8192 < 2147483648 by omega), A1r]
    rcases hh with ⟨q, z⟩ | ⟨q, z⟩
    · have ne : ¬ A ((hM (kM D (Fr F r) T I C l n s k) + d) % 8192) = -9 := by
        intro w
        unfold bM at z
        rw [if_pos w] at z
        cases z
      have e : dcN D (Fr F r) T I C l n s (k + 1) = dcN D (Fr F r) T I C l n s k := cnt_f (fun w => hnw.mp w q)
      rw [if_neg ne, L0, add_n, Nat.add_zero]
      rw [e] at st
      exact st
    · have ne : A ((hM (kM D (Fr F r) T I C l n s k) + d) % 8192) = -9 := by
        by_cases w : A ((hM (kM D (Fr F r) T I C l n s k) + d) % 8192) = -9
        · exact w
        · unfold bM at z
          rw [if_neg w] at z
          cases z
      have e : dcN D (Fr F r) T I C l n s (k + 1) = dcN D (Fr F r) T I C l n s k + 1 := cnt_y (hnw.mpr q)
      rw [if_pos ne]
      rw [e] at st
      exact st
theorem u3 {N : Nat} (kk : Int32 → (Nat → Int32) → Option (Int32 × (Nat → Int32) × (Nat → Int32) × (Nat → Int32))) : ∀ (j g k : Nat) (A : Nat → Int32), k + j = 8192 → j < g → (∀ i, i < k → A i = -9) → ∃ A', f_X6_unlike_3 N kk g (nI k) A = kk (nI 8192) A' ∧ ∀ i, i < 8192 → A' i = -9 := by
  intro j
  induction j with
  | zero =>
    intro g k A hk hg hA
    obtain ⟨g', rfl⟩ : ∃ g', g = g' + 1 := ⟨g - 1, by omega⟩
    have : k = 8192 := by omega
    subst this
    exact ⟨A, by rw [f_X6_unlike_3, if_pos (by rw [L8192, le_n (by omega) (by omega)]; omega)], hA⟩
  | succ j ih =>
    intro g k A hk hg hA
    obtain ⟨g', rfl⟩ : ∃ g', g = g' + 1 := ⟨g - 1, by omega⟩
    rw [f_X6_unlike_3, if_neg (by rw [L8192, le_n (by omega) (by omega)]; omega), gI_n (by omega) (by omega), cl_n (by omega), A1r]
    refine ih g' (k + 1) _ (by omega) (by omega) (fun i hi => ?_)
    by_cases e : i = k
    · subst e; rw [up_s]
    · rw [up_n e]; exact hA i (by omega)
theorem unM {N n l s : Nat} {D F T I C : Nat → Nat} {md mi mn : Nat → Int32} (r : Int32) (P A K : Nat → Int32) (hN : 200000 ≤ N) (hB : HabB n D F T I C) (hM' : HabM n D F T I C md mi mn) (hl : l ≤ 5) (hs : s < 16) : ∃ P' A' K', f_X6_unlike N (nI l) (nI s) r (nI n) md mi mn P A K = some (nI (dcN D (Fr F r) T I C l n s (4 ^ l)), (P', A', K')) := by
  have hp := p4_le5 hl
  obtain ⟨A1', f1, f2⟩ := u3 (N := N) (fun z4_3 zvt_table_3 => f_X6_unlike_32 N (nI l) (nI s) r (nI n) md mi mn (fun z4_32 z5_32 zvt_pages_32 zvt_table_32 zvt_keys_32 => some (z4_32, (zvt_pages_32, zvt_table_32, zvt_keys_32))) N (0:Int32) (0:Int32) P zvt_table_3 K) 8192 N 0 A (by omega) (by omega) (fun i hi => by omega)
  have hb : ∀ x, x < 8192 → bM D (Fr F r) T I C l n s A1' x = none := fun x hx => by unfold bM; rw [if_pos (f2 x hx)]
  have h0 : DrM D (Fr F r) T I C l n s 0 A1' K := by
    refine ⟨fun x hx => Or.inl (f2 x hx), fun i hi => by omega, ⟨fun x q hx h => ?_, fun q hq => ?_⟩, ?_⟩
    · rw [hb x hx] at h; cases h
    · obtain ⟨i, hi, -⟩ := hq; omega
    · rw [cnt_zero (fun x hx => by rw [hb x hx]; exact Bool.noConfusion)]
      exact Nat.le_refl 0
  obtain ⟨P', A', K', h2⟩ := u32 r hN hB hM' hl hs (fun z4_32 z5_32 zvt_pages_32 zvt_table_32 zvt_keys_32 => some (z4_32, (zvt_pages_32, zvt_table_32, zvt_keys_32))) (4 ^ l) N 0 P A1' K (by omega) (by omega) h0
  exact ⟨P', A', K', f1.trans h2⟩
theorem bbM {N n l : Nat} {D F T I C : Nat → Nat} {md mi mn : Nat → Int32} (r : Int32) (P A K : Nat → Int32) (hN : 200000 ≤ N) (hB : HabB n D F T I C) (hM' : HabM n D F T I C md mi mn) (hl : l ≤ 5) : ∃ P' A' K', f_X6_blindBy N (nI l) r (nI n) md mi mn P A K = some (nI (4 ^ l - dcN D (Fr F r) T I C l n (2 ^ n - 1) (4 ^ l)), (P', A', K')) := by
  obtain ⟨P', A', K', h⟩ := unM (s := 15) r P A K hN hB hM' hl (by decide)
  refine ⟨P', A', K', ?_⟩
  have hle := dcN_le (D := D) (F := Fr F r) (T := T) (I := I) (C := C) (l := l) (n := n) (s := 15) (k := 4 ^ l)
  unfold f_X6_blindBy
  rw [fT (by omega), Option.bind_some, show (15:Int32) = nI 15 from rfl, h, Option.bind_some]
  dsimp only
  rw [sub_n hle, dcN_cong (F' := Fr F r) (fun _ _ => rfl) (bit15 hB.1)]
theorem bbM9 {N n l : Nat} {D F T I C : Nat → Nat} {md mi mn : Nat → Int32} (P A K : Nat → Int32) (hN : 200000 ≤ N) (hB : HabB n D F T I C) (hM' : HabM n D F T I C md mi mn) (hl : l ≤ 5) : ∃ P' A' K', f_X6_blindBy N (nI l) (-9) (nI n) md mi mn P A K = some (nI (4 ^ l - dcN D F T I C l n (2 ^ n - 1) (4 ^ l)), (P', A', K')) := by
  obtain ⟨P', A', K', h⟩ := bbM (-9) P A K hN hB hM' hl
  refine ⟨P', A', K', ?_⟩
  rw [h, dcN_cong (F' := F) (Fr_9 hB.1) (fun _ _ => rfl)]
