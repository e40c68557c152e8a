/-! the fewest who tell all rows apart -/
def fmN (p : Nat → Bool) : Nat → Option Nat
  | 0 => none
  | s + 1 => (fmN p s).elim (if p s = true then some s else none) (fun b => if bcn b ≤ bcn s then some b else if p s = true then some s else some b)
def oI (o : Option Nat) : Int32 := o.elim (-9) nI
theorem fmN_spec (p : Nat → Bool) : ∀ S, (fmN p S = none ∧ ∀ s, s < S → ¬ p s = true) ∨ ∃ b, fmN p S = some b ∧ b < S ∧ p b = true ∧ ∀ s, s < S → p s = true → bcn b < bcn s ∨ (bcn b = bcn s ∧ b ≤ s) := by
  intro S
  induction S with
  | zero => exact Or.inl ⟨rfl, fun s hs => by omega⟩
  | succ S ih =>
    rcases ih with ⟨e, h⟩ | ⟨b, e, hb, pb, h⟩
    · rw [fmN, e, Option.elim_none]
      by_cases q : p S = true
      · right
        refine ⟨S, by rw [if_pos q], by omega, q, fun s hs ps => ?_⟩
        by_cases w : s = S
        · subst w; exact Or.inr ⟨rfl, Nat.le_refl _⟩
        · exact absurd ps (h s (by omega))
      · left
        refine ⟨by rw [if_neg q], fun s hs => ?_⟩
        by_cases w : s = S
        · rw [w]; exact q
        · exact h s (by omega)
    · rw [fmN, e, Option.elim_some]
      right
      by_cases k : bcn b ≤ bcn S
      · refine ⟨b, by rw [if_pos k], by omega, pb, fun s hs ps => ?_⟩
        by_cases w : s = S
        · subst w; omega
        · exact h s (by omega) ps
      · rw [if_neg k]
        by_cases q : p S = true
        · refine ⟨S, by rw [if_pos q], by omega, q, fun s hs ps => ?_⟩
          by_cases w : s = S
          · subst w; exact Or.inr ⟨rfl, Nat.le_refl _⟩
          · have := h s (by omega) ps
            omega
        · refine ⟨b, by rw [if_neg q], by omega, pb, fun s hs ps => ?_⟩
          by_cases w : s = S
          · rw [w] at ps; exact absurd ps q
          · exact h s (by omega) ps
theorem onM (N : Nat) : ∀ s, s < 16 → f_X6_ones N (nI s) = some (nI (bcn s)) := by unfold f_X6_ones; decide +kernel
theorem bcn4 : ∀ s, s < 16 → bcn s ≤ 4 := by decide +kernel
theorem feM_loop {N n l : Nat} {D F T I C : Nat → Nat} {md mi mn : Nat → Int32} (hN : 200000 ≤ N) (hB : HabB n D F T I C) (hM' : HabM n D F T I C md mi mn) (hl : l ≤ 5) (kk : Int32 → Int32 → (Nat → Int32) → (Nat → Int32) → (Nat → Int32) → Option (Int32 × (Nat → Int32) × (Nat → Int32) × (Nat → Int32))) :
    ∀ (j g s : Nat) (P A K : Nat → Int32), s + j = 2 ^ n → j < g → ∃ P' A' K', f_X6_fewest_20 N (nI l) (nI n) md mi mn kk g (oI (fmN (tAB D F T I C l n) s)) (nI s) P A K = kk (oI (fmN (tAB D F T I C l n) (2 ^ n))) (nI (2 ^ n)) P' A' K' := by
  have hp := p4_le5 hl
  have hn := hB.1
  have h16 : 2 ^ n ≤ 16 := Nat.pow_le_pow_right (n := 2) (by decide) hn
  intro j
  induction j with
  | zero =>
    intro g s P A K hs hg
    obtain ⟨g', rfl⟩ : ∃ g', g = g' + 1 := ⟨g - 1, by omega⟩
    have : s = 2 ^ n := by omega
    subst this
    exact ⟨P, A, K, by rw [f_X6_fewest_20, if_pos (by rw [sh1 n (by omega), le_n (by omega) (by omega)]; omega)]⟩
  | succ j ih =>
    intro g s P A K hs hg
    obtain ⟨g', rfl⟩ : ∃ g', g = g' + 1 := ⟨g - 1, by omega⟩
    have hle := dcN_le (D := D) (F := F) (T := T) (I := I) (C := C) (l := l) (n := n) (s := s) (k := 4 ^ l)
    obtain ⟨P1, A1', K1, m1⟩ := unM (s := s) (-9) P A K hN hB hM' hl (by omega)
    rw [dcN_cong (F' := F) (Fr_9 hn) (fun _ _ => rfl)] at m1
    have ask : (nI (dcN D F T I C l n s (4 ^ l)) = nI (4 ^ l)) = (tAB D F T I C l n s = true) := by
      rw [eq_n (by omega) (by omega)]
      exact propext tAB_iff.symm
    rw [f_X6_fewest_20, if_neg (by rw [sh1 n (by omega), le_n (by omega) (by omega)]; omega), A1r]
    rcases fmN_spec (tAB D F T I C l n) s with ⟨e, -⟩ | ⟨b, e, hb, -, -⟩
    · rw [e, if_pos (show oI none = -9 from rfl), m1, Option.bind_some, fT (by omega), Option.bind_some]
      dsimp only
      by_cases q : tAB D F T I C l n s = true
      · rw [if_pos (by rw [ask]; exact q)]
        have e2 : fmN (tAB D F T I C l n) (s + 1) = some s := by rw [fmN, e, Option.elim_none, if_pos q]
        have st := ih g' (s + 1) P1 A1' K1 (by omega) (by omega)
        rw [e2] at st
        exact st
      · rw [if_neg (by rw [ask]; exact q)]
        have e2 : fmN (tAB D F T I C l n) (s + 1) = none := by rw [fmN, e, Option.elim_none, if_neg q]
        have st := ih g' (s + 1) P1 A1' K1 (by omega) (by omega)
        rw [e2] at st
        exact st
    · have c1 := bcn4 b (by omega)
      have c2 := bcn4 s (by omega)
      rw [e, show oI (some b) = nI b from rfl, if_neg (by rw [m9_n (by omega)]; exact id), onM N s (by omega), Option.bind_some, onM N b (by omega), Option.bind_some]
      by_cases k : bcn b ≤ bcn s
      · rw [if_pos (by rw [le_n (by omega) (by omega)]; exact k)]
        have e2 : fmN (tAB D F T I C l n) (s + 1) = some b := by rw [fmN, e, Option.elim_some, if_pos k]
        have st := ih g' (s + 1) P A K (by omega) (by omega)
        rw [e2] at st
        exact st
      · rw [if_neg (by rw [le_n (by omega) (by omega)]; exact k), m1, Option.bind_some, fT (by omega), Option.bind_some]
        dsimp only
        by_cases q : tAB D F T I C l n s = true
        · rw [if_pos (by rw [ask]; exact q)]
          have e2 : fmN (tAB D F T I C l n) (s + 1) = some s := by rw [fmN, e, Option.elim_some, if_neg k, if_pos q]
          have st := ih g' (s + 1) P1 A1' K1 (by omega) (by omega)
          rw [e2] at st
          exact st
        · rw [if_neg (by rw [ask]; exact q)]
          have e2 : fmN (tAB D F T I C l n) (s + 1) = some b := by rw [fmN, e, Option.elim_some, if_neg k, if_neg q]
          have st := ih g' (s + 1) P1 A1' K1 (by omega) (by omega)
          rw [e2] at st
          exact st
theorem feX_pass {N n l z : Nat} {D F T I C : Nat → Nat} {bd bf bt bi bc : Nat → Int32} (hN : 200000 ≤ N) (hB : HabB n D F T I C) (hX : HabX n D F T I C bd bf bt bi bc) (hl : l ≤ 5) (hz : z ≤ 4) (hno : ∀ s, s < 2 ^ n → bcn s = z → ¬ tAB D F T I C l n s = true) (kk : Int32 → (Nat → Int32) → (Nat → Int64) → Option (Int32 × (Nat → Int32) × (Nat → Int64))) :
    ∀ (j g s : Nat) (P : Nat → Int32) (L : Nat → Int64), s + j = 2 ^ n → j < g → ∃ P' L', f_X5_fewest_29 N (nI l) (nI n) bd bf bt bi bc (nI (2 ^ n - 1)) (nI z) kk g (nI s) P L = kk (nI (2 ^ n)) P' L' := by
  have hn := hB.1
  have h16 : 2 ^ n ≤ 16 := Nat.pow_le_pow_right (n := 2) (by decide) hn
  have hpos : 0 < 2 ^ n := Nat.pow_pos (by decide)
  intro j
  induction j with
  | zero =>
    intro g s P L hs hg
    obtain ⟨g', rfl⟩ : ∃ g', g = g' + 1 := ⟨g - 1, by omega⟩
    have : s = 2 ^ n := by omega
    subst this
    exact ⟨P, L, by rw [f_X5_fewest_29, if_pos (by rw [lt_n (by omega) (by omega)]; omega)]⟩
  | succ j ih =>
    intro g s P L hs hg
    obtain ⟨g', rfl⟩ : ∃ g', g = g' + 1 := ⟨g - 1, by omega⟩
    have c2 := bcn4 s (by omega)
    rw [f_X5_fewest_29, if_neg (by rw [lt_n (by omega) (by omega)]; omega), bcJ N s (by omega), Option.bind_some, A1r]
    by_cases w : bcn s = z
    · obtain ⟨P1, L1', x1⟩ := taX (s := s) P L hN hB hX hl (by omega)
      rw [if_pos (by rw [w]), x1, Option.bind_some]
      dsimp only
      rw [if_pos (by rw [if_neg (hno s (by omega) w)])]
      exact ih g' (s + 1) P1 L1' (by omega) (by omega)
    · rw [if_neg (by rw [eq_n (by omega) (by omega)]; exact w)]
      exact ih g' (s + 1) P L (by omega) (by omega)
theorem feX_hit {N n l b : Nat} {D F T I C : Nat → Nat} {bd bf bt bi bc : Nat → Int32} (hN : 200000 ≤ N) (hB : HabB n D F T I C) (hX : HabX n D F T I C bd bf bt bi bc) (hl : l ≤ 5) (hb : b < 2 ^ n) (pb : tAB D F T I C l n b = true) (hno : ∀ s, s < b → bcn s = bcn b → ¬ tAB D F T I C l n s = true) (kk : Int32 → (Nat → Int32) → (Nat → Int64) → Option (Int32 × (Nat → Int32) × (Nat → Int64))) :
    ∀ (j g s : Nat) (P : Nat → Int32) (L : Nat → Int64), s + j = b → j < g → ∃ P' L', f_X5_fewest_29 N (nI l) (nI n) bd bf bt bi bc (nI (2 ^ n - 1)) (nI (bcn b)) kk g (nI s) P L = some (nI b, (P', L')) := by
  have hn := hB.1
  have h16 : 2 ^ n ≤ 16 := Nat.pow_le_pow_right (n := 2) (by decide) hn
  have hpos : 0 < 2 ^ n := Nat.pow_pos (by decide)
  have c1 := bcn4 b (by omega)
  intro j
  induction j with
  | zero =>
    intro g s P L hs hg
    obtain ⟨g', rfl⟩ : ∃ g', g = g' + 1 := ⟨g - 1, by omega⟩
    have : s = b := by omega
    subst this
    obtain ⟨P1, L1', x1⟩ := taX (s := s) P L hN hB hX hl (by omega)
    rw [f_X5_fewest_29, if_neg (by rw [lt_n (by omega) (by omega)]; omega), bcJ N s (by omega), Option.bind_some, if_pos rfl, x1, Option.bind_some]
    dsimp only
    rw [if_neg (by rw [if_pos pb]; exact n10)]
    exact ⟨P1, L1', rfl⟩
  | succ j ih =>
    intro g s P L hs hg
    obtain ⟨g', rfl⟩ : ∃ g', g = g' + 1 := ⟨g - 1, by omega⟩
    have c2 := bcn4 s (by omega)
    rw [f_X5_fewest_29, if_neg (by rw [lt_n (by omega) (by omega)]; omega), bcJ N s (by omega), Option.bind_some, A1r]
    by_cases w : bcn s = bcn b
    · obtain ⟨P1, L1', x1⟩ := taX (s := s) P L hN hB hX hl (by omega)
      rw [if_pos (by rw [w]), x1, Option.bind_some]
      dsimp only
      rw [if_pos (by rw [if_neg (hno s (by omega) w)])]
      exact ih g' (s + 1) P1 L1' (by omega) (by omega)
    · rw [if_neg (by rw [eq_n (by omega) (by omega)]; exact w)]
      exact ih g' (s + 1) P L (by omega) (by omega)
theorem feX_none {N n l : Nat} {D F T I C : Nat → Nat} {bd bf bt bi bc : Nat → Int32} (hN : 200000 ≤ N) (hB : HabB n D F T I C) (hX : HabX n D F T I C bd bf bt bi bc) (hl : l ≤ 5) (hno : ∀ s, s < 2 ^ n → ¬ tAB D F T I C l n s = true) (kk : Int32 → (Nat → Int32) → (Nat → Int64) → Option (Int32 × (Nat → Int32) × (Nat → Int64))) :
    ∀ (j g z : Nat) (P : Nat → Int32) (L : Nat → Int64), z + j = 5 → j < g → ∃ P' L', f_X5_fewest_21 N (nI l) (nI n) bd bf bt bi bc (nI (2 ^ n - 1)) kk g (nI z) P L = kk (nI 5) P' L' := by
  have hn := hB.1
  have h16 : 2 ^ n ≤ 16 := Nat.pow_le_pow_right (n := 2) (by decide) hn
  intro j
  induction j with
  | zero =>
    intro g z P L hz hg
    obtain ⟨g', rfl⟩ : ∃ g', g = g' + 1 := ⟨g - 1, by omega⟩
    have : z = 5 := by omega
    subst this
    exact ⟨P, L, by rw [f_X5_fewest_21, if_pos (by decide)]⟩
  | succ j ih =>
    intro g z P L hz hg
    obtain ⟨g', rfl⟩ : ∃ g', g = g' + 1 := ⟨g - 1, by omega⟩
    obtain ⟨P1, L1', x1⟩ := feX_pass (z := z) hN hB hX hl (by omega) (fun s hs _ => hno s hs) (fun z4_29 zvt_bench_pages_29 zvt_drawers_lying_29 => f_X5_fewest_21 N (nI l) (nI n) bd bf bt bi bc (nI (2 ^ n - 1)) kk g' (nI z + (1:Int32)) zvt_bench_pages_29 zvt_drawers_lying_29) (2 ^ n) N 0 P L (by omega) (by omega)
    obtain ⟨P', L', x2⟩ := ih g' (z + 1) P1 L1' (by omega) (by omega)
    refine ⟨P', L', ?_⟩
    rw [f_X5_fewest_21, if_neg (by rw [L4, lt_n (by omega) (by omega)]; omega)]
    refine x1.trans ?_
    rw [A1r]
    exact x2
theorem feX_some {N n l b : Nat} {D F T I C : Nat → Nat} {bd bf bt bi bc : Nat → Int32} (hN : 200000 ≤ N) (hB : HabB n D F T I C) (hX : HabX n D F T I C bd bf bt bi bc) (hl : l ≤ 5) (hb : b < 2 ^ n) (pb : tAB D F T I C l n b = true) (hm : ∀ s, s < 2 ^ n → tAB D F T I C l n s = true → bcn b < bcn s ∨ (bcn b = bcn s ∧ b ≤ s)) (kk : Int32 → (Nat → Int32) → (Nat → Int64) → Option (Int32 × (Nat → Int32) × (Nat → Int64))) :
    ∀ (j g z : Nat) (P : Nat → Int32) (L : Nat → Int64), z + j = bcn b → j < g → ∃ P' L', f_X5_fewest_21 N (nI l) (nI n) bd bf bt bi bc (nI (2 ^ n - 1)) kk g (nI z) P L = some (nI b, (P', L')) := by
  have hn := hB.1
  have h16 : 2 ^ n ≤ 16 := Nat.pow_le_pow_right (n := 2) (by decide) hn
  have c1 := bcn4 b (by omega)
  intro j
  induction j with
  | zero =>
    intro g z P L hz hg
    obtain ⟨g', rfl⟩ : ∃ g', g = g' + 1 := ⟨g - 1, by omega⟩
    have : z = bcn b := by omega
    subst this
    rw [f_X5_fewest_21, if_neg (by rw [L4, lt_n (by omega) (by omega)]; omega)]
    exact feX_hit hN hB hX hl hb pb (fun s hs e ps => by have := hm s (by omega) ps; omega) _ b N 0 P L (by omega) (by omega)
  | succ j ih =>
    intro g z P L hz hg
    obtain ⟨g', rfl⟩ : ∃ g', g = g' + 1 := ⟨g - 1, by omega⟩
    obtain ⟨P1, L1', x1⟩ := feX_pass (z := z) hN hB hX hl (by omega) (fun s hs e ps => by have := hm s hs ps; omega) (fun z4_29 zvt_bench_pages_29 zvt_drawers_lying_29 => f_X5_fewest_21 N (nI l) (nI n) bd bf bt bi bc (nI (2 ^ n - 1)) kk g' (nI z + (1:Int32)) zvt_bench_pages_29 zvt_drawers_lying_29) (2 ^ n) N 0 P L (by omega) (by omega)
    obtain ⟨P', L', x2⟩ := ih g' (z + 1) P1 L1' (by omega) (by omega)
    refine ⟨P', L', ?_⟩
    rw [f_X5_fewest_21, if_neg (by rw [L4, lt_n (by omega) (by omega)]; omega)]
    refine x1.trans ?_
    rw [A1r]
    exact x2
