/-! the least that fits, what is sure, how likely -/
def fig (m v : Nat) : Nat → Nat
  | 0 => 0
  | k + 1 => 10 * fig m v k + wd m v k + 1
theorem aF_loop {N m v : Nat} (hm : m ≤ 6) (hv : v < 4 ^ m) (kk : Int32 → Int32 → Option Int32) : ∀ (j g k : Nat), k + j = m → j < g → f_X4_asFigures_9 N (nI (4 ^ m + v)) (nI m) kk g (nI (fig m v k)) (nI k) = kk (nI (fig m v m)) (nI m) := by
  intro j
  induction j with
  | zero =>
    intro g k hk hg
    obtain ⟨g', rfl⟩ : ∃ g', g = g' + 1 := ⟨g - 1, by omega⟩
    have : k = m := by omega
    subst this
    rw [f_X4_asFigures_9, if_pos (by rw [le_n (by omega) (by omega)]; omega)]
  | succ j ih =>
    intro g k hk hg
    obtain ⟨g', rfl⟩ : ∃ g', g = g' + 1 := ⟨g - 1, by omega⟩
    rw [f_X4_asFigures_9, if_neg (by rw [le_n (by omega) (by omega)]; omega), wA hm hv (by omega), Option.bind_some, L10, mul_n, add_n, A1r, A1r]
    exact ih g' (k + 1) (by omega) (by omega)
theorem aF {N m v : Nat} (hN : 200000 ≤ N) (hm : m ≤ 6) (hv : v < 4 ^ m) : f_X4_asFigures N (nI (4 ^ m + v)) = some (nI (fig m v m)) := by
  unfold f_X4_asFigures
  rw [wI hN hm hv, Option.bind_some]
  exact aF_loop hm hv (fun z2_9 z3_9 => some z2_9) m N 0 (by omega) (by omega)
theorem mF_loop {N m v : Nat} {q : Nat → Int32} (hm : m ≤ 6) (hv : v < 4 ^ m) (kk : Int32 → Int32 → Option (Int32 × Int32 × (Nat → Int32))) : ∀ (j g k : Nat), k + j = m → j < g → f_X6_least_40 N (nI m) (nI (4096 * m + v), q) kk g (nI (fig m v k)) (nI k) = kk (nI (fig m v m)) (nI m) := by
  intro j
  induction j with
  | zero =>
    intro g k hk hg
    obtain ⟨g', rfl⟩ : ∃ g', g = g' + 1 := ⟨g - 1, by omega⟩
    have : k = m := by omega
    subst this
    rw [f_X6_least_40, if_pos (by rw [le_n (by omega) (by omega)]; omega)]
  | succ j ih =>
    intro g k hk hg
    obtain ⟨g', rfl⟩ : ∃ g', g = g' + 1 := ⟨g - 1, by omega⟩
    rw [f_X6_least_40, if_neg (by rw [le_n (by omega) (by omega)]; omega)]
    dsimp only
    rw [mA hm hv (by omega), Option.bind_some, L10, mul_n, add_n, A1r, A1r]
    exact ih g' (k + 1) (by omega) (by omega)
theorem leX_no {N n l : Nat} {D F T I C : Nat → Nat} {t : Nat → Option (Nat × Nat)} {bd bf bt bi bc to md mi mn mt : Nat → Int32} (hN : 200000 ≤ N) (h : Cx n D F T I C t bd bf bt bi bc to md mi mn mt) (hl : l ≤ 5) (hno : ∀ i, i < 4 ^ l → ¬ fitB n D F T I C t l i n = true) (kk : Int32 → (Nat → Int32) → Option (Int32 × (Nat → Int32))) :
    ∀ (j g k : Nat) (P : Nat → Int32), k + j = 4 ^ l → j < g → ∃ P', f_X5_least_21 N (nI n) bd bf bt bi bc to (nI (2 * 4 ^ l)) kk g (nI (4 ^ l + k)) P = kk (nI (2 * 4 ^ l)) P' := by
  have hp := p4_le5 hl
  intro j
  induction j with
  | zero =>
    intro g k P hk hg
    obtain ⟨g', rfl⟩ : ∃ g', g = g' + 1 := ⟨g - 1, by omega⟩
    have : k = 4 ^ l := by omega
    subst this
    exact ⟨P, by rw [f_X5_least_21, if_pos (by rw [le_n (by omega) (by omega)]; omega), show 4 ^ l + 4 ^ l = 2 * 4 ^ l by omega]⟩
  | succ j ih =>
    intro g k P hk hg
    obtain ⟨g', rfl⟩ : ∃ g', g = g' + 1 := ⟨g - 1, by omega⟩
    obtain ⟨P1, h1, -⟩ := aT P hN h (show l ≤ 6 by omega) (show k < 4 ^ l by omega)
    obtain ⟨P2, h2⟩ := ih g' (k + 1) P1 (by omega) (by omega)
    refine ⟨P2, ?_⟩
    rw [f_X5_least_21, if_neg (by rw [le_n (by omega) (by omega)]; omega), h1, Option.bind_some, A1r]
    dsimp only
    rw [if_neg (hno k (by omega)), if_pos z00]
    exact h2
theorem leX_at {N n l k0 : Nat} {D F T I C : Nat → Nat} {t : Nat → Option (Nat × Nat)} {bd bf bt bi bc to md mi mn mt : Nat → Int32} (hN : 200000 ≤ N) (h : Cx n D F T I C t bd bf bt bi bc to md mi mn mt) (hl : l ≤ 5) (hk0 : k0 < 4 ^ l) (hy : fitB n D F T I C t l k0 n = true) (hno : ∀ i, i < k0 → ¬ fitB n D F T I C t l i n = true) (kk : Int32 → (Nat → Int32) → Option (Int32 × (Nat → Int32))) :
    ∀ (j g k : Nat) (P : Nat → Int32), k + j = k0 → j < g → ∃ P', f_X5_least_21 N (nI n) bd bf bt bi bc to (nI (2 * 4 ^ l)) kk g (nI (4 ^ l + k)) P = some (nI (fig l k0 l), P') := by
  have hp := p4_le5 hl
  intro j
  induction j with
  | zero =>
    intro g k P hk hg
    obtain ⟨g', rfl⟩ : ∃ g', g = g' + 1 := ⟨g - 1, by omega⟩
    have : k = k0 := by omega
    subst this
    obtain ⟨P1, h1, -⟩ := aT P hN h (show l ≤ 6 by omega) hk0
    refine ⟨P1, ?_⟩
    rw [f_X5_least_21, if_neg (by rw [le_n (by omega) (by omega)]; omega), h1, Option.bind_some]
    dsimp only
    rw [if_pos hy, if_neg n10, aF hN (by omega) hk0, Option.bind_some]
  | succ j ih =>
    intro g k P hk hg
    obtain ⟨g', rfl⟩ : ∃ g', g = g' + 1 := ⟨g - 1, by omega⟩
    obtain ⟨P1, h1, -⟩ := aT P hN h (show l ≤ 6 by omega) (show k < 4 ^ l by omega)
    obtain ⟨P2, h2⟩ := ih g' (k + 1) P1 (by omega) (by omega)
    refine ⟨P2, ?_⟩
    rw [f_X5_least_21, if_neg (by rw [le_n (by omega) (by omega)]; omega), h1, Option.bind_some, A1r]
    dsimp only
    rw [if_neg (hno k (by omega)), if_pos z00]
    exact h2
theorem leM_no {N n l : Nat} {D F T I C : Nat → Nat} {t : Nat → Option (Nat × Nat)} {bd bf bt bi bc to md mi mn mt : Nat → Int32} (hN : 200000 ≤ N) (h : Cx n D F T I C t bd bf bt bi bc to md mi mn mt) (hl : l ≤ 5) (hno : ∀ i, i < 4 ^ l → ¬ fitB n D F T I C t l i n = true) (kk : Int32 → (Nat → Int32) → Option (Int32 × (Nat → Int32))) :
    ∀ (j g k : Nat) (P : Nat → Int32), k + j = 4 ^ l → j < g → ∃ P', f_X6_leastFit_2 N (nI l) (nI n) md mi mn mt kk g (nI k) P = kk (nI (4 ^ l)) P' := by
  have hp := p4_le5 hl
  intro j
  induction j with
  | zero =>
    intro g k P hk hg
    obtain ⟨g', rfl⟩ : ∃ g', g = g' + 1 := ⟨g - 1, by omega⟩
    have : k = 4 ^ l := by omega
    subst this
    exact ⟨P, by rw [f_X6_leastFit_2, fT (by omega), Option.bind_some, if_pos (by rw [le_n (by omega) (by omega)]; omega)]⟩
  | succ j ih =>
    intro g k P hk hg
    obtain ⟨g', rfl⟩ : ∃ g', g = g' + 1 := ⟨g - 1, by omega⟩
    obtain ⟨P1, h1, -⟩ := iF P hN h (show l ≤ 6 by omega) (show k < 4 ^ l by omega)
    obtain ⟨P2, h2⟩ := ih g' (k + 1) P1 (by omega) (by omega)
    refine ⟨P2, ?_⟩
    rw [f_X6_leastFit_2, fT (by omega), Option.bind_some, if_neg (by rw [le_n (by omega) (by omega)]; omega), mulL, add_n, h1, Option.bind_some, A1r]
    dsimp only
    rw [if_neg (hno k (by omega)), if_pos z00]
    exact h2
theorem leM_at {N n l k0 : Nat} {D F T I C : Nat → Nat} {t : Nat → Option (Nat × Nat)} {bd bf bt bi bc to md mi mn mt : Nat → Int32} (hN : 200000 ≤ N) (h : Cx n D F T I C t bd bf bt bi bc to md mi mn mt) (hl : l ≤ 5) (hk0 : k0 < 4 ^ l) (hy : fitB n D F T I C t l k0 n = true) (hno : ∀ i, i < k0 → ¬ fitB n D F T I C t l i n = true) (kk : Int32 → (Nat → Int32) → Option (Int32 × (Nat → Int32))) :
    ∀ (j g k : Nat) (P : Nat → Int32), k + j = k0 → j < g → ∃ P', f_X6_leastFit_2 N (nI l) (nI n) md mi mn mt kk g (nI k) P = some (nI (4096 * l + k0), P') := by
  have hp := p4_le5 hl
  intro j
  induction j with
  | zero =>
    intro g k P hk hg
    obtain ⟨g', rfl⟩ : ∃ g', g = g' + 1 := ⟨g - 1, by omega⟩
    have : k = k0 := by omega
    subst this
    obtain ⟨P1, h1, -⟩ := iF P hN h (show l ≤ 6 by omega) hk0
    refine ⟨P1, ?_⟩
    rw [f_X6_leastFit_2, fT (by omega), Option.bind_some, if_neg (by rw [le_n (by omega) (by omega)]; omega), mulL, add_n, h1, Option.bind_some]
    dsimp only
    rw [if_pos hy, if_neg n10]
  | succ j ih =>
    intro g k P hk hg
    obtain ⟨g', rfl⟩ : ∃ g', g = g' + 1 := ⟨g - 1, by omega⟩
    obtain ⟨P1, h1, -⟩ := iF P hN h (show l ≤ 6 by omega) (show k < 4 ^ l by omega)
    obtain ⟨P2, h2⟩ := ih g' (k + 1) P1 (by omega) (by omega)
    refine ⟨P2, ?_⟩
    rw [f_X6_leastFit_2, fT (by omega), Option.bind_some, if_neg (by rw [le_n (by omega) (by omega)]; omega), mulL, add_n, h1, Option.bind_some, A1r]
    dsimp only
    rw [if_neg (hno k (by omega)), if_pos z00]
    exact h2
/-- some fits, the first at k0, or none does -/
theorem first_fit (p : Nat → Bool) (K : Nat) : (∀ i, i < K → ¬ p i = true) ∨ ∃ k0, k0 < K ∧ p k0 = true ∧ ∀ i, i < k0 → ¬ p i = true := by
  by_cases h : ∃ k, k < K ∧ p k = true
  · right
    obtain ⟨k0, ⟨h1, h2⟩, h3⟩ := pk_least (fun k => k < K ∧ p k = true) h
    exact ⟨k0, h1, h2, fun i hi q => h3 i hi ⟨by omega, q⟩⟩
  · left
    exact fun i hi q => h ⟨i, hi, q⟩
theorem leastM {N n l : Nat} {D F T I C : Nat → Nat} {t : Nat → Option (Nat × Nat)} {bd bf bt bi bc to md mi mn mt : Nat → Int32} (P : Nat → Int32) (hN : 200000 ≤ N) (h : Cx n D F T I C t bd bf bt bi bc to md mi mn mt) (hl : l ≤ 5) : ((∀ i, i < 4 ^ l → ¬ fitB n D F T I C t l i n = true) ∧ ∃ P', f_X6_leastFit N (nI l) (nI n) md mi mn mt P = some (-9, P')) ∨ ∃ k0, k0 < 4 ^ l ∧ fitB n D F T I C t l k0 n = true ∧ (∀ i, i < k0 → ¬ fitB n D F T I C t l i n = true) ∧ ∃ P', f_X6_leastFit N (nI l) (nI n) md mi mn mt P = some (nI (4096 * l + k0), P') := by
  have hp := p4_le5 hl
  unfold f_X6_leastFit
  rcases first_fit (fun v => fitB n D F T I C t l v n) (4 ^ l) with hno | ⟨k0, a1, a2, a3⟩
  · left
    obtain ⟨P', h1⟩ := leM_no hN h hl hno (fun z2_2 zvt_pages_2 => some ((-9:Int32), zvt_pages_2)) (4 ^ l) N 0 P (by omega) (by omega)
    exact ⟨hno, P', h1⟩
  · right
    obtain ⟨P', h1⟩ := leM_at hN h hl a1 a2 a3 (fun z2_2 zvt_pages_2 => some ((-9:Int32), zvt_pages_2)) k0 N 0 P (by omega) (by omega)
    exact ⟨k0, a1, a2, a3, P', h1⟩
