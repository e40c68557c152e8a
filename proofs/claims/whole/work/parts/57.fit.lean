/-! which trials fit -/
theorem pgl_st {D F T I C : Nat → Nat} {m v c j : Nat} (h : j < c) : ∀ d, pgl D F T I C m v (c + d) j = pgl D F T I C m v c j := by
  intro d
  induction d with
  | zero => rfl
  | succ d ih => rw [← Nat.add_assoc, pgl_n (by omega), ih]
theorem pgl_up {D F T I C : Nat → Nat} {m v c n j : Nat} (h : j < c) (hn : c ≤ n) : pgl D F T I C m v n j = pgl D F T I C m v c j := by
  obtain ⟨d, rfl⟩ : ∃ d, n = c + d := ⟨n - c, by omega⟩
  exact pgl_st h d
theorem rC_inj {a b c d : Nat} (ha : b < 4 ^ a) (hc : d < 4 ^ c) (h : 4 ^ a + b = 4 ^ c + d) : a = c ∧ b = d := by
  rcases Nat.lt_trichotomy a c with q | q | q
  · have := Nat.pow_le_pow_right (n := 4) (by decide) (show a + 1 ≤ c from q)
    rw [Nat.pow_succ] at this
    omega
  · subst q; omega
  · have := Nat.pow_le_pow_right (n := 4) (by decide) (show c + 1 ≤ a from q)
    rw [Nat.pow_succ] at this
    omega
theorem rC_eq {a b c d : Nat} (ha6 : a ≤ 6) (hc6 : c ≤ 6) (ha : b < 4 ^ a) (hc : d < 4 ^ c) : (nI (4 ^ a + b) = nI (4 ^ c + d)) = ((a, b) = (c, d)) := by
  have h1 := p4_le ha6
  have h2 := p4_le hc6
  rw [eq_n (by omega) (by omega)]
  refine propext ⟨fun h => ?_, fun h => ?_⟩
  · obtain ⟨rfl, rfl⟩ := rC_inj ha hc h; rfl
  · cases h; rfl
theorem rM_eq {a b c d : Nat} (ha6 : a ≤ 6) (hc6 : c ≤ 6) (ha : b < 4 ^ a) (hc : d < 4 ^ c) : (nI (4096 * a + b) = nI (4096 * c + d)) = ((a, b) = (c, d)) := by
  have h1 := p4_le ha6
  have h2 := p4_le hc6
  rw [eq_n (by omega) (by omega)]
  refine propext ⟨fun h => ?_, fun h => ?_⟩
  · have e1 : a = c := by omega
    have e2 : b = d := by omega
    rw [e1, e2]
  · cases h; rfl
def fitB (n : Nat) (D F T I C : Nat → Nat) (t : Nat → Option (Nat × Nat)) (m v : Nat) : Nat → Bool
  | 0 => true
  | c + 1 => fitB n D F T I C t m v c && decide (t c = none ∨ t c = some (pgl D F T I C m v n c))
theorem fitB_f {n : Nat} {D F T I C : Nat → Nat} {t : Nat → Option (Nat × Nat)} {m v c : Nat} (h : fitB n D F T I C t m v c = false) : ∀ d, fitB n D F T I C t m v (c + d) = false := by
  intro d
  induction d with
  | zero => exact h
  | succ d ih =>
    show (fitB n D F T I C t m v (c + d) && _) = false
    rw [ih]; rfl
theorem fitB_fu {n : Nat} {D F T I C : Nat → Nat} {t : Nat → Option (Nat × Nat)} {m v c : Nat} (h : fitB n D F T I C t m v c = false) (hc : c ≤ n) : fitB n D F T I C t m v n = false := by
  have := fitB_f h (n - c)
  rwa [show c + (n - c) = n by omega] at this
def Cx (n : Nat) (D F T I C : Nat → Nat) (t : Nat → Option (Nat × Nat)) (bd bf bt bi bc to md mi mn mt : Nat → Int32) : Prop := HabB n D F T I C ∧ HabX n D F T I C bd bf bt bi bc ∧ HabM n D F T I C md mi mn ∧ ToldR n t to mt
theorem aT_loop {N n m v : Nat} {D F T I C : Nat → Nat} {t : Nat → Option (Nat × Nat)} {bd bf bt bi bc to md mi mn mt : Nat → Int32} (hN : 200000 ≤ N) (h : Cx n D F T I C t bd bf bt bi bc to md mi mn mt) (hm : m ≤ 6) (hv : v < 4 ^ m) (kk : Int32 → (Nat → Int32) → Option (Int32 × (Nat → Int32))) :
    ∀ (j g c : Nat) (P : Nat → Int32), c + j = n → j < g → PgX D F T I C m v c P → fitB n D F T I C t m v c = true → ∃ P', f_X5_isAsTold_2 N (nI (4 ^ m + v)) (nI n) bd bf bt bi bc to kk g (nI c) P = (if fitB n D F T I C t m v n = true then kk (nI n) P' else some (0, P')) ∧ (fitB n D F T I C t m v n = true → PgX D F T I C m v n P') := by
  obtain ⟨hB, hX, hM, hTo⟩ := h
  have hn := hB.1
  intro j
  induction j with
  | zero =>
    intro g c P hc hg hP hf
    obtain ⟨g', rfl⟩ : ∃ g', g = g' + 1 := ⟨g - 1, by omega⟩
    have : c = n := by omega
    subst this
    refine ⟨P, ?_, fun _ => hP⟩
    rw [f_X5_isAsTold_2, if_pos (by rw [le_n (by omega) (by omega)]; omega), if_pos hf]
  | succ j ih =>
    intro g c P hc hg hP hf
    obtain ⟨g', rfl⟩ : ∃ g', g = g' + 1 := ⟨g - 1, by omega⟩
    obtain ⟨P1, h1, h2, -⟩ := tD1 hN hB hX (show c < n by omega) hm hv hP
    have ok := pgl_ok hB hv n (Nat.le_refl n) c (by omega)
    have up := pgl_up (D := D) (F := F) (T := T) (I := I) (C := C) (m := m) (v := v) (show c < c + 1 by omega) (show c + 1 ≤ n by omega)
    have e1 : P1 c = nI (4 ^ (pgl D F T I C m v n c).1 + (pgl D F T I C m v n c).2) := by rw [up]; exact h2 c (by omega)
    rw [f_X5_isAsTold_2, if_neg (by rw [le_n (by omega) (by omega)]; omega), h1, Option.bind_some, A1r]
    simp only [gI_n (show c < 4 by omega) (show (4:Nat) < 2147483648 by decide), cl_n (show c < 2147483648 by omega)]
    rcases hTo c (by omega) with ⟨t0, t1, -⟩ | ⟨a, b, t0, t1, t2, t3, -⟩
    · rw [if_pos t1]
      exact ih g' (c + 1) P1 (by omega) (by omega) h2 (by show (_ && _) = true; rw [hf, t0]; simp)
    · have hp := p4_le t1
      have hq := p4_pos a
      rw [t3, e1, if_neg (nI_ne0 (by omega) (by omega))]
      simp only [rC_eq t1 (Nat.le_trans ok.1 hm) t2 ok.2]
      by_cases q : (a, b) = ((pgl D F T I C m v n c).1, (pgl D F T I C m v n c).2)
      · rw [if_pos q]
        exact ih g' (c + 1) P1 (by omega) (by omega) h2 (by show (_ && _) = true; rw [hf, t0, q]; simp)
      · rw [if_neg q]
        have ff : fitB n D F T I C t m v (c + 1) = false := by
          show (_ && _) = false
          rw [hf, t0]
          simp only [Bool.true_and, decide_eq_false_iff_not]
          rintro (z | z)
          · cases z
          · exact q (Option.some.inj z)
        have ff2 := fitB_fu ff (by omega)
        exact ⟨P1, by rw [ff2]; rfl, fun z => by rw [ff2] at z; cases z⟩
theorem aT {N n m v : Nat} {D F T I C : Nat → Nat} {t : Nat → Option (Nat × Nat)} {bd bf bt bi bc to md mi mn mt : Nat → Int32} (P : Nat → Int32) (hN : 200000 ≤ N) (h : Cx n D F T I C t bd bf bt bi bc to md mi mn mt) (hm : m ≤ 6) (hv : v < 4 ^ m) : ∃ P', f_X5_isAsTold N (nI (4 ^ m + v)) (nI n) bd bf bt bi bc P to = some (if fitB n D F T I C t m v n = true then 1 else 0, P') ∧ (fitB n D F T I C t m v n = true → PgX D F T I C m v n P') := by
  have hn := h.1.1
  obtain ⟨P', h1, h2⟩ := aT_loop hN h hm hv (fun z2_2 zvt_bench_pages_2 => some ((1:Int32), zvt_bench_pages_2)) n N 0 P (by omega) (by omega) (fun j hj => by omega) rfl
  refine ⟨P', ?_, h2⟩
  unfold f_X5_isAsTold
  rw [L0, h1]
  split <;> rfl
theorem iF_loop {N n m v : Nat} {D F T I C : Nat → Nat} {t : Nat → Option (Nat × Nat)} {bd bf bt bi bc to md mi mn mt P : Nat → Int32} (h : Cx n D F T I C t bd bf bt bi bc to md mi mn mt) (hm : m ≤ 6) (hv : v < 4 ^ m) (hP : PgM D F T I C m v n P) (kk : Int32 → Int32 → Option (Int32 × (Nat → Int32))) :
    ∀ (j g c : Nat), c + j = n → j < g → f_X6_isFit_11 N (nI n) mt P kk g (if fitB n D F T I C t m v c = true then 1 else 0) (nI c) = kk (if fitB n D F T I C t m v n = true then 1 else 0) (nI n) := by
  obtain ⟨hB, hX, hM, hTo⟩ := h
  have hn := hB.1
  intro j
  induction j with
  | zero =>
    intro g c hc hg
    obtain ⟨g', rfl⟩ : ∃ g', g = g' + 1 := ⟨g - 1, by omega⟩
    have : c = n := by omega
    subst this
    rw [f_X6_isFit_11, if_pos (by rw [le_n (by omega) (by omega)]; omega)]
  | succ j ih =>
    intro g c hc hg
    obtain ⟨g', rfl⟩ : ∃ g', g = g' + 1 := ⟨g - 1, by omega⟩
    have step := ih g' (c + 1) (by omega) (by omega)
    have ok := pgl_ok hB hv n (Nat.le_refl n) c (by omega)
    rw [f_X6_isFit_11, if_neg (by rw [le_n (by omega) (by omega)]; omega), A1r]
    simp only [gI_n (show c < 4 by omega) (show (4:Nat) < 2147483648 by decide), cl_n (show c < 2147483648 by omega)]
    rw [show fitB n D F T I C t m v (c + 1) = (fitB n D F T I C t m v c && decide (t c = none ∨ t c = some (pgl D F T I C m v n c))) from rfl] at step
    by_cases hf : fitB n D F T I C t m v c = true
    · rw [if_pos hf, if_neg n10]
      rw [hf, Bool.true_and] at step
      rcases hTo c (by omega) with ⟨t0, -, t1⟩ | ⟨a, b, t0, t1, t2, -, t3⟩
      · rw [if_pos t1]
        rw [if_pos (by rw [t0]; simp)] at step
        exact step
      · have hp := p4_le t1
        rw [if_neg (show ¬ mt c = -9 by rw [t3, m9_n (by omega)]; exact id), t3, hP c (by omega)]
        simp only [rM_eq t1 (Nat.le_trans ok.1 hm) t2 ok.2]
        by_cases q : (a, b) = ((pgl D F T I C m v n c).1, (pgl D F T I C m v n c).2)
        · rw [if_pos q]
          rw [if_pos (by rw [t0, q]; simp)] at step
          exact step
        · rw [if_neg q]
          rw [if_neg (by
            rw [t0]
            simp only [decide_eq_true_eq]
            rintro (z | z)
            · cases z
            · exact q (Option.some.inj z))] at step
          exact step
    · rw [if_neg hf, if_pos z00]
      rw [show fitB n D F T I C t m v c = false from Bool.eq_false_iff.mpr hf, Bool.false_and] at step
      exact step
theorem iF {N n m v : Nat} {D F T I C : Nat → Nat} {t : Nat → Option (Nat × Nat)} {bd bf bt bi bc to md mi mn mt : Nat → Int32} (P : Nat → Int32) (hN : 200000 ≤ N) (h : Cx n D F T I C t bd bf bt bi bc to md mi mn mt) (hm : m ≤ 6) (hv : v < 4 ^ m) : ∃ P', f_X6_isFit N (nI (4096 * m + v)) (nI n) md mi mn mt P = some (if fitB n D F T I C t m v n = true then 1 else 0, P') ∧ PgM D F T I C m v n P' := by
  have hn := h.1.1
  obtain ⟨P', h1, h2⟩ := lP9 P hN h.1 h.2.2.1 hm hv
  refine ⟨P', ?_, h2⟩
  unfold f_X6_isFit
  have := iF_loop (N := N) h hm hv h2 (fun z2_11 z3_11 => gZ z2_11 (some (z2_11, P'))) n N 0 (by omega) (by omega)
  rw [show fitB n D F T I C t m v 0 = true from rfl, if_pos rfl] at this
  rw [h1, Option.bind_some, show (0:Int32) = nI 0 from rfl, this]
  split
  · rw [gZ_1]
  · rw [show nI 0 = (0:Int32) from rfl, gZ_0]
/-- how many of the first k -/
def cnt (p : Nat → Bool) : Nat → Nat
  | 0 => 0
  | k + 1 => cnt p k + (if p k = true then 1 else 0)
theorem cnt_le (p : Nat → Bool) : ∀ k, cnt p k ≤ k := by
  intro k
  induction k with
  | zero => exact Nat.le_refl _
  | succ k ih => unfold cnt; split <;> omega
theorem cnt_y {p : Nat → Bool} {k : Nat} (h : p k = true) : cnt p (k + 1) = cnt p k + 1 := by
  show cnt p k + (if p k = true then 1 else 0) = _
  rw [if_pos h]
theorem cnt_f {p : Nat → Bool} {k : Nat} (h : ¬ p k = true) : cnt p (k + 1) = cnt p k := by
  show cnt p k + (if p k = true then 1 else 0) = _
  rw [if_neg h]; rfl
theorem ite10 {c : Prop} [Decidable c] : ((if c then (1:Int32) else 0) = 0) = ¬ c := by
  by_cases h : c
  · rw [if_pos h]; exact propext ⟨fun q => absurd q n10, fun q => absurd h q⟩
  · rw [if_neg h]; exact propext ⟨fun _ => h, fun _ => rfl⟩
theorem A0r (x : Int32) : x + (0:Int32) = x := Int32.add_zero x
theorem mulL (a : Nat) : nI a * (4096:Int32) = nI (4096 * a) := by rw [L4096, mul_n, Nat.mul_comm]
theorem fits_loop {N n l : Nat} {D F T I C : Nat → Nat} {t : Nat → Option (Nat × Nat)} {bd bf bt bi bc to md mi mn mt : Nat → Int32} (hN : 200000 ≤ N) (h : Cx n D F T I C t bd bf bt bi bc to md mi mn mt) (hl : l ≤ 5) (kk : Int32 → Int32 → (Nat → Int32) → Option (Int32 × (Nat → Int32))) :
    ∀ (j g k : Nat) (P : Nat → Int32), k + j = 4 ^ l → j < g → ∃ P', f_X5_fits_24 N (nI n) bd bf bt bi bc to (nI (2 * 4 ^ l)) kk g (nI (cnt (fun v => fitB n D F T I C t l v n) k)) (nI (4 ^ l + k)) P = kk (nI (cnt (fun v => fitB n D F T I C t l v n) (4 ^ l))) (nI (2 * 4 ^ l)) P' := by
  have hp := p4_le5 hl
  intro j
  induction j with
  | zero =>
    intro g k P hk hg
    obtain ⟨g', rfl⟩ : ∃ g', g = g' + 1 := ⟨g - 1, by omega⟩
    have : k = 4 ^ l := by omega
    subst this
    exact ⟨P, by rw [f_X5_fits_24, if_pos (by rw [le_n (by omega) (by omega)]; omega), show 4 ^ l + 4 ^ l = 2 * 4 ^ l by omega]⟩
  | succ j ih =>
    intro g k P hk hg
    obtain ⟨g', rfl⟩ : ∃ g', g = g' + 1 := ⟨g - 1, by omega⟩
    obtain ⟨P1, h1, -⟩ := aT P hN h (show l ≤ 6 by omega) (show k < 4 ^ l by omega)
    obtain ⟨P2, h2⟩ := ih g' (k + 1) P1 (by omega) (by omega)
    refine ⟨P2, ?_⟩
    rw [f_X5_fits_24, if_neg (by rw [le_n (by omega) (by omega)]; omega), h1, Option.bind_some, A1r, A1r]
    dsimp only
    rw [← Nat.add_assoc] at h2
    by_cases q : fitB n D F T I C t l k n = true
    · rw [if_pos q, if_neg n10]
      rw [cnt_y (p := fun v => fitB n D F T I C t l v n) q] at h2
      exact h2
    · rw [if_neg q, if_pos z00]
      rw [cnt_f (p := fun v => fitB n D F T I C t l v n) q] at h2
      exact h2
theorem fitsX {N n l : Nat} {D F T I C : Nat → Nat} {t : Nat → Option (Nat × Nat)} {bd bf bt bi bc to md mi mn mt : Nat → Int32} (P : Nat → Int32) (hN : 200000 ≤ N) (h : Cx n D F T I C t bd bf bt bi bc to md mi mn mt) (hl : l ≤ 5) (h1 : f_X5_isLength N (nI l) 0 = some 1) : ∃ P', f_X5_fits N (nI l) (nI n) bd bf bt bi bc P to = some (nI (cnt (fun v => fitB n D F T I C t l v n) (4 ^ l)), P') := by
  have hp := p4_le5 hl
  obtain ⟨P', h2⟩ := fits_loop hN h hl (fun z2_24 z4_24 zvt_bench_pages_24 => some (z2_24, zvt_bench_pages_24)) (4 ^ l) N 0 P (by omega) (by omega)
  refine ⟨P', ?_⟩
  unfold f_X5_fits
  rw [h1, Option.bind_some, if_neg n10, eO (by omega), Option.bind_some, fO (by omega), Option.bind_some]
  exact h2
theorem fitsM_loop {N n l : Nat} {D F T I C : Nat → Nat} {t : Nat → Option (Nat × Nat)} {bd bf bt bi bc to md mi mn mt : Nat → Int32} (hN : 200000 ≤ N) (h : Cx n D F T I C t bd bf bt bi bc to md mi mn mt) (hl : l ≤ 5) (kk : Int32 → Int32 → (Nat → Int32) → Option (Int32 × (Nat → Int32))) :
    ∀ (j g k : Nat) (P : Nat → Int32), k + j = 4 ^ l → j < g → ∃ P', f_X6_fits_19 N (nI l) (nI n) md mi mn mt kk g (nI (cnt (fun v => fitB n D F T I C t l v n) k)) (nI k) P = kk (nI (cnt (fun v => fitB n D F T I C t l v n) (4 ^ l))) (nI (4 ^ l)) P' := by
  have hp := p4_le5 hl
  intro j
  induction j with
  | zero =>
    intro g k P hk hg
    obtain ⟨g', rfl⟩ : ∃ g', g = g' + 1 := ⟨g - 1, by omega⟩
    have : k = 4 ^ l := by omega
    subst this
    exact ⟨P, by rw [f_X6_fits_19, fT (by omega), Option.bind_some, if_pos (by rw [le_n (by omega) (by omega)]; omega)]⟩
  | succ j ih =>
    intro g k P hk hg
    obtain ⟨g', rfl⟩ : ∃ g', g = g' + 1 := ⟨g - 1, by omega⟩
    obtain ⟨P1, h1, -⟩ := iF P hN h (show l ≤ 6 by omega) (show k < 4 ^ l by omega)
    obtain ⟨P2, h2⟩ := ih g' (k + 1) P1 (by omega) (by omega)
    refine ⟨P2, ?_⟩
    rw [f_X6_fits_19, fT (by omega), Option.bind_some, if_neg (by rw [le_n (by omega) (by omega)]; omega), mulL, add_n, h1, Option.bind_some, A1r, A1r, A0r]
    dsimp only
    by_cases q : fitB n D F T I C t l k n = true
    · rw [if_pos q, if_neg n10]
      rw [cnt_y (p := fun v => fitB n D F T I C t l v n) q] at h2
      exact h2
    · rw [if_neg q, if_pos z00]
      rw [cnt_f (p := fun v => fitB n D F T I C t l v n) q] at h2
      exact h2
theorem fitsM {N n l : Nat} {D F T I C : Nat → Nat} {t : Nat → Option (Nat × Nat)} {bd bf bt bi bc to md mi mn mt : Nat → Int32} (P : Nat → Int32) (hN : 200000 ≤ N) (h : Cx n D F T I C t bd bf bt bi bc to md mi mn mt) (hl : l ≤ 5) (h1 : f_X6_in N (nI l).toInt64 0 5 = some 1) : ∃ P', f_X6_fits N (nI l) (nI n) md mi mn mt P = some (nI (cnt (fun v => fitB n D F T I C t l v n) (4 ^ l)), P') := by
  have hp := p4_le5 hl
  obtain ⟨P', h2⟩ := fitsM_loop hN h hl (fun z2_19 z3_19 zvt_pages_19 => some (z2_19, zvt_pages_19)) (4 ^ l) N 0 P (by omega) (by omega)
  refine ⟨P', ?_⟩
  unfold f_X6_fits
  rw [h1, Option.bind_some, if_neg n10]
  exact h2
