/-! what was surely said -/
theorem cnt_and (p q : Nat → Bool) : ∀ K, cnt (fun i => p i && q i) K ≤ cnt p K ∧ (cnt (fun i => p i && q i) K = cnt p K ↔ ∀ i, i < K → p i = true → q i = true) := by
  intro K
  induction K with
  | zero => exact ⟨Nat.le_refl _, fun _ i hi => by omega, fun _ => rfl⟩
  | succ K ih =>
    obtain ⟨h1, h2⟩ := ih
    by_cases hp : p K = true
    · by_cases hq : q K = true
      · rw [cnt_y (p := p) hp, cnt_y (p := fun i => p i && q i) (by simp [hp, hq])]
        refine ⟨by omega, fun h i hi hpi => ?_, fun h => ?_⟩
        · by_cases e : i = K
          · subst e; exact hq
          · exact h2.mp (by omega) i (by omega) hpi
        · have := h2.mpr (fun i hi => h i (by omega)); omega
      · rw [cnt_y (p := p) hp, cnt_f (p := fun i => p i && q i) (by simp [hq])]
        exact ⟨by omega, fun h => by omega, fun h => absurd (h K (by omega) hp) hq⟩
    · rw [cnt_f (p := p) hp, cnt_f (p := fun i => p i && q i) (by simp [hp])]
      refine ⟨h1, fun h i hi hpi => ?_, fun h => h2.mpr (fun i hi => h i (by omega))⟩
      by_cases e : i = K
      · subst e; exact absurd hpi hp
      · exact h2.mp h i (by omega) hpi
theorem cnt_pos {p : Nat → Bool} : ∀ {K k}, k < K → p k = true → 0 < cnt p K := by
  intro K
  induction K with
  | zero => intro k hk; omega
  | succ K ih =>
    intro k hk hp
    by_cases e : k = K
    · subst e; rw [cnt_y hp]; omega
    · have h1 := ih (show k < K by omega) hp
      have h2 : cnt p K ≤ cnt p (K + 1) := by
        show cnt p K ≤ cnt p K + _
        omega
      omega
theorem cnt_zero {p : Nat → Bool} : ∀ {K}, (∀ i, i < K → ¬ p i = true) → cnt p K = 0 := by
  intro K
  induction K with
  | zero => intro _; rfl
  | succ K ih => intro h; rw [cnt_f (h K (by omega)), ih (fun i hi => h i (by omega))]
/-- no row from k on says otherwise than y -/
theorem suX_go {N n l pl : Nat} {y : Int32} {D F T I C : Nat → Nat} {t : Nat → Option (Nat × Nat)} {bd bf bt bi bc to md mi mn mt : Nat → Int32} (hN : 200000 ≤ N) (h : Cx n D F T I C t bd bf bt bi bc to md mi mn mt) (hl : l ≤ 5) (hpl : pl < l) (kk : Int32 → Int32 → (Nat → Int32) → Option (Int32 × (Nat → Int32))) :
    ∀ (j g k : Nat) (P : Nat → Int32), k + j = 4 ^ l → j < g → (∀ i, k ≤ i → i < 4 ^ l → fitB n D F T I C t l i n = true → y = nI (wd l i pl)) → ∃ P', f_X5_sure_35 N (nI pl) (nI n) bd bf bt bi bc to (nI (2 * 4 ^ l)) kk g y (nI (4 ^ l + k)) P = kk y (nI (2 * 4 ^ l)) P' := by
  have hp := p4_le5 hl
  intro j
  induction j with
  | zero =>
    intro g k P hk hg hno
    obtain ⟨g', rfl⟩ : ∃ g', g = g' + 1 := ⟨g - 1, by omega⟩
    have : k = 4 ^ l := by omega
    subst this
    exact ⟨P, by rw [f_X5_sure_35, if_pos (by rw [le_n (by omega) (by omega)]; omega), show 4 ^ l + 4 ^ l = 2 * 4 ^ l by omega]⟩
  | succ j ih =>
    intro g k P hk hg hno
    obtain ⟨g', rfl⟩ : ∃ g', g = g' + 1 := ⟨g - 1, by omega⟩
    obtain ⟨P1, h1, -⟩ := aT P hN h (show l ≤ 6 by omega) (show k < 4 ^ l by omega)
    obtain ⟨P2, h2⟩ := ih g' (k + 1) P1 (by omega) (by omega) (fun i hi => hno i (by omega))
    refine ⟨P2, ?_⟩
    rw [f_X5_sure_35, if_neg (by rw [le_n (by omega) (by omega)]; omega), h1, Option.bind_some, wON hN (by omega) (show k < 4 ^ l by omega) hpl, Option.bind_some, A1r]
    dsimp only
    rw [← Nat.add_assoc] at h2
    by_cases q : fitB n D F T I C t l k n = true
    · have e := hno k (Nat.le_refl k) (by omega) q
      have hw := wd_lt l k pl
      rw [if_pos q, if_neg n10, if_neg (show ¬ y = -9 by rw [e, m9_n (by omega)]; exact id), if_pos e, ← e]
      exact h2
    · rw [if_neg q, if_pos z00]
      exact h2
/-- a row from k on says otherwise than w -/
theorem suX_no {N n l pl w k1 : Nat} {D F T I C : Nat → Nat} {t : Nat → Option (Nat × Nat)} {bd bf bt bi bc to md mi mn mt : Nat → Int32} (hN : 200000 ≤ N) (h : Cx n D F T I C t bd bf bt bi bc to md mi mn mt) (hl : l ≤ 5) (hpl : pl < l) (hw : w < 4) (hk1 : k1 < 4 ^ l) (hy : fitB n D F T I C t l k1 n = true) (hne : wd l k1 pl ≠ w) (kk : Int32 → Int32 → (Nat → Int32) → Option (Int32 × (Nat → Int32))) :
    ∀ (j g k : Nat) (P : Nat → Int32), k + j = k1 → j < g → ∃ P', f_X5_sure_35 N (nI pl) (nI n) bd bf bt bi bc to (nI (2 * 4 ^ l)) kk g (nI w) (nI (4 ^ l + k)) P = some (-9, P') := by
  have hp := p4_le5 hl
  intro j
  induction j with
  | zero =>
    intro g k P hk hg
    obtain ⟨g', rfl⟩ : ∃ g', g = g' + 1 := ⟨g - 1, by omega⟩
    have : k = k1 := by omega
    subst this
    obtain ⟨P1, h1, -⟩ := aT P hN h (show l ≤ 6 by omega) hk1
    have hw2 := wd_lt l k pl
    refine ⟨P1, ?_⟩
    rw [f_X5_sure_35, if_neg (by rw [le_n (by omega) (by omega)]; omega), h1, Option.bind_some, wON hN (by omega) hk1 hpl, Option.bind_some]
    dsimp only
    rw [if_pos hy, if_neg n10, if_neg (show ¬ nI w = -9 by rw [m9_n (by omega)]; exact id), if_neg (by rw [eq_n (by omega) (by omega)]; exact fun z => hne z.symm)]
  | succ j ih =>
    intro g k P hk hg
    obtain ⟨g', rfl⟩ : ∃ g', g = g' + 1 := ⟨g - 1, by omega⟩
    obtain ⟨P1, h1, -⟩ := aT P hN h (show l ≤ 6 by omega) (show k < 4 ^ l by omega)
    obtain ⟨P2, h2⟩ := ih g' (k + 1) P1 (by omega) (by omega)
    have hw2 := wd_lt l k pl
    rw [f_X5_sure_35, if_neg (by rw [le_n (by omega) (by omega)]; omega), h1, Option.bind_some, wON hN (by omega) (show k < 4 ^ l by omega) hpl, Option.bind_some, A1r]
    dsimp only
    rw [← Nat.add_assoc] at h2
    by_cases q : fitB n D F T I C t l k n = true
    · rw [if_pos q, if_neg n10, if_neg (show ¬ nI w = -9 by rw [m9_n (by omega)]; exact id)]
      by_cases r : nI w = nI (wd l k pl)
      · rw [if_pos r, ← r]
        exact ⟨P2, h2⟩
      · rw [if_neg r]
        exact ⟨P1, rfl⟩
    · rw [if_neg q, if_pos z00]
      exact ⟨P2, h2⟩
/-- up to the first that fits -/
theorem suX_to {N n l pl k0 : Nat} {D F T I C : Nat → Nat} {t : Nat → Option (Nat × Nat)} {bd bf bt bi bc to md mi mn mt : Nat → Int32} (hN : 200000 ≤ N) (h : Cx n D F T I C t bd bf bt bi bc to md mi mn mt) (hl : l ≤ 5) (hpl : pl < l) (hk0 : k0 < 4 ^ l) (hy : fitB n D F T I C t l k0 n = true) (hno : ∀ i, i < k0 → ¬ fitB n D F T I C t l i n = true) (kk : Int32 → Int32 → (Nat → Int32) → Option (Int32 × (Nat → Int32))) :
    ∀ (j g k : Nat) (P : Nat → Int32), k + j = k0 → 4 ^ l - k < g → ∃ g' P', 4 ^ l - (k0 + 1) < g' ∧ f_X5_sure_35 N (nI pl) (nI n) bd bf bt bi bc to (nI (2 * 4 ^ l)) kk g (-9) (nI (4 ^ l + k)) P = f_X5_sure_35 N (nI pl) (nI n) bd bf bt bi bc to (nI (2 * 4 ^ l)) kk g' (nI (wd l k0 pl)) (nI (4 ^ l + (k0 + 1))) P' := by
  have hp := p4_le5 hl
  intro j
  induction j with
  | zero =>
    intro g k P hk hg
    obtain ⟨g', rfl⟩ : ∃ g', g = g' + 1 := ⟨g - 1, by omega⟩
    have : k = k0 := by omega
    subst this
    obtain ⟨P1, h1, -⟩ := aT P hN h (show l ≤ 6 by omega) hk0
    refine ⟨g', P1, by omega, ?_⟩
    rw [f_X5_sure_35, if_neg (by rw [le_n (by omega) (by omega)]; omega), h1, Option.bind_some, wON hN (by omega) hk0 hpl, Option.bind_some, A1r]
    dsimp only
    rw [if_pos hy, if_neg n10, if_pos rfl, Nat.add_assoc]
  | succ j ih =>
    intro g k P hk hg
    obtain ⟨g', rfl⟩ : ∃ g', g = g' + 1 := ⟨g - 1, by omega⟩
    obtain ⟨P1, h1, -⟩ := aT P hN h (show l ≤ 6 by omega) (show k < 4 ^ l by omega)
    obtain ⟨g2, P2, h2, h3⟩ := ih g' (k + 1) P1 (by omega) (by omega)
    refine ⟨g2, P2, h2, ?_⟩
    rw [f_X5_sure_35, if_neg (by rw [le_n (by omega) (by omega)]; omega), h1, Option.bind_some, A1r]
    dsimp only
    rw [if_neg (hno k (by omega)), if_pos z00, ← h3, Nat.add_assoc]
theorem suM_loop {N n l pl w0 : Nat} {D F T I C : Nat → Nat} {t : Nat → Option (Nat × Nat)} {bd bf bt bi bc to md mi mn mt Q : Nat → Int32} (hN : 200000 ≤ N) (h : Cx n D F T I C t bd bf bt bi bc to md mi mn mt) (hl : l ≤ 5) (hpl : pl < l) (hw0 : w0 ≤ 4) (hpos : 0 < cnt (fun v => fitB n D F T I C t l v n) (4 ^ l)) (hno : ∀ w, w < w0 → cnt (fun v => fitB n D F T I C t l v n && decide (wd l v pl = w)) (4 ^ l) ≠ cnt (fun v => fitB n D F T I C t l v n) (4 ^ l)) (hy : w0 < 4 → cnt (fun v => fitB n D F T I C t l v n && decide (wd l v pl = w0)) (4 ^ l) = cnt (fun v => fitB n D F T I C t l v n) (4 ^ l)) (kk : Int32 → (Nat → Int32) → Option (Int32 × (Nat → Int32))) :
    ∀ (j g w : Nat) (P : Nat → Int32), w + j = w0 → j < g → ∃ P', f_X6_sure_37 N (nI l) (nI pl) (nI n) md mi mn mt (nI (cnt (fun v => fitB n D F T I C t l v n) (4 ^ l)), Q) kk g (nI w) P = (if w0 < 4 then some (nI w0, P') else kk (nI 4) P') := by
  have hp := p4_le5 hl
  have c1 := cnt_le (fun v => fitB n D F T I C t l v n) (4 ^ l)
  intro j
  induction j with
  | zero =>
    intro g w P hw hg
    obtain ⟨g', rfl⟩ : ∃ g', g = g' + 1 := ⟨g - 1, by omega⟩
    have : w = w0 := by omega
    subst this
    by_cases q : w < 4
    · obtain ⟨P2, e2⟩ := fwM P hN h hl hpl q
      refine ⟨P2, ?_⟩
      rw [f_X6_sure_37, if_neg (by rw [L4, le_n (by omega) (by omega)]; omega)]
      dsimp only
      rw [if_neg (by rw [L0, le_n (by omega) (by omega)]; omega), e2, Option.bind_some]
      dsimp only
      rw [if_pos (by rw [hy q]), if_pos q]
    · have e4 : w = 4 := by omega
      subst e4
      exact ⟨P, by rw [f_X6_sure_37, if_pos (show (4:Int32) ≤ nI 4 by decide), if_neg q]⟩
  | succ j ih =>
    intro g w P hw hg
    obtain ⟨g', rfl⟩ : ∃ g', g = g' + 1 := ⟨g - 1, by omega⟩
    obtain ⟨P2, e2⟩ := fwM P hN h hl hpl (show w < 4 by omega)
    obtain ⟨P3, e3⟩ := ih g' (w + 1) P2 (by omega) (by omega)
    have c2 := cnt_le (fun v => fitB n D F T I C t l v n && decide (wd l v pl = w)) (4 ^ l)
    refine ⟨P3, ?_⟩
    rw [f_X6_sure_37, if_neg (by rw [L4, le_n (by omega) (by omega)]; omega)]
    dsimp only
    rw [if_neg (by rw [L0, le_n (by omega) (by omega)]; omega), e2, Option.bind_some]
    dsimp only
    rw [if_neg (by rw [eq_n (by omega) (by omega)]; exact hno w (by omega)), A1r]
    exact e3
