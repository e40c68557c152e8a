/-! which page to read next -/
def ctp (fit : Nat → Bool) (pg : Nat → Nat × Nat) (x : Nat × Nat) : Nat → Nat := cnt (fun k => fit k && decide (pg k = x))
def mxp (fit : Nat → Bool) (pg : Nat → Nat × Nat) : Nat → Nat
  | 0 => 0
  | k + 1 => if fit k = true then (if mxp fit pg k < ctp fit pg (pg k) (k + 1) then ctp fit pg (pg k) (k + 1) else mxp fit pg k) else mxp fit pg k
theorem ctp_le {fit : Nat → Bool} {pg : Nat → Nat × Nat} {x : Nat × Nat} {k : Nat} : ctp fit pg x k ≤ k := cnt_le _ k
theorem ctp_y {fit : Nat → Bool} {pg : Nat → Nat × Nat} {x : Nat × Nat} {k : Nat} (h : fit k = true) (e : pg k = x) : ctp fit pg x (k + 1) = ctp fit pg x k + 1 := by
  unfold ctp
  exact cnt_y (p := fun k => fit k && decide (pg k = x)) (by show (fit k && decide (pg k = x)) = true; rw [h, decide_eq_true e]; rfl)
theorem ctp_f {fit : Nat → Bool} {pg : Nat → Nat × Nat} {x : Nat × Nat} {k : Nat} (h : ¬ fit k = true) : ctp fit pg x (k + 1) = ctp fit pg x k := by
  unfold ctp
  exact cnt_f (p := fun k => fit k && decide (pg k = x)) (by show ¬ (fit k && decide (pg k = x)) = true; rw [Bool.not_eq_true] at h; rw [h]; exact Bool.noConfusion)
theorem ctp_n {fit : Nat → Bool} {pg : Nat → Nat × Nat} {x : Nat × Nat} {k : Nat} (e : ¬ pg k = x) : ctp fit pg x (k + 1) = ctp fit pg x k := by
  unfold ctp
  exact cnt_f (p := fun k => fit k && decide (pg k = x)) (by show ¬ (fit k && decide (pg k = x)) = true; rw [decide_eq_false e, Bool.and_false]; exact Bool.noConfusion)
theorem mxp_le {fit : Nat → Bool} {pg : Nat → Nat × Nat} : ∀ k, mxp fit pg k ≤ k := by
  intro k
  induction k with
  | zero => exact Nat.le_refl 0
  | succ k ih =>
    have := ctp_le (fit := fit) (pg := pg) (x := pg k) (k := k + 1)
    rw [mxp]
    split
    · split <;> omega
    · omega
theorem mxp_mono {fit : Nat → Bool} {pg : Nat → Nat × Nat} {k : Nat} : mxp fit pg k ≤ mxp fit pg (k + 1) := by
  rw [mxp]
  split
  · split <;> omega
  · omega
theorem mxp_pos {fit : Nat → Bool} {pg : Nat → Nat × Nat} : ∀ {K k}, k < K → fit k = true → 0 < mxp fit pg K := by
  intro K
  induction K with
  | zero => intro k h; omega
  | succ K ih =>
    intro k h hf
    by_cases e : k = K
    · subst e
      have := ctp_y (pg := pg) (x := pg k) hf rfl
      rw [mxp, if_pos hf]
      split <;> omega
    · have := ih (k := k) (by omega) hf
      have := mxp_mono (fit := fit) (pg := pg) (k := K)
      omega
theorem mxp_zero {fit : Nat → Bool} {pg : Nat → Nat × Nat} : ∀ {K}, (∀ i, i < K → ¬ fit i = true) → mxp fit pg K = 0 := by
  intro K
  induction K with
  | zero => intro _; rfl
  | succ K ih =>
    intro h
    rw [mxp, if_neg (h K (by omega))]
    exact ih (fun i hi => h i (by omega))
theorem lNp1 : ∀ x, x < 1100 → lN x + (1:Int64) = lN (x + 1) ∧ (lN x).toInt32 = nI x := by decide +kernel
theorem maX_loop {N n l c : Nat} {D F T I C : Nat → Nat} {t : Nat → Option (Nat × Nat)} {bd bf bt bi bc to md mi mn mt : Nat → Int32} (hN : 200000 ≤ N) (h : Cx n D F T I C t bd bf bt bi bc to md mi mn mt) (hl : l ≤ 5) (hc : c < n) (kk : Int32 → Int32 → (Nat → Int32) → (Nat → Int64) → Option (Int32 × (Nat → Int32) × (Nat → Int64))) :
    ∀ (j g k : Nat) (P : Nat → Int32) (L : Nat → Int64), k + j = 4 ^ l → j < g → (∀ a b, a ≤ 5 → b < 4 ^ a → L (4 ^ a + b) = lN (ctp (fun k => fitB n D F T I C t l k n) (fun k => pgl D F T I C l k n c) (a, b) k)) → ∃ P' L', f_X5_mostAlike_21 N (nI c) (nI n) bd bf bt bi bc to (nI (2 * 4 ^ l)) kk g (nI (mxp (fun k => fitB n D F T I C t l k n) (fun k => pgl D F T I C l k n c) k)) (nI (4 ^ l + k)) P L = kk (nI (mxp (fun k => fitB n D F T I C t l k n) (fun k => pgl D F T I C l k n c) (4 ^ l))) (nI (2 * 4 ^ l)) P' L' := by
  have hp := p4_le5 hl
  have hn := h.1.1
  intro j
  induction j with
  | zero =>
    intro g k P L hk hg _
    obtain ⟨g', rfl⟩ : ∃ g', g = g' + 1 := ⟨g - 1, by omega⟩
    have : k = 4 ^ l := by omega
    subst this
    exact ⟨P, L, by rw [f_X5_mostAlike_21, if_pos (by rw [le_n (by omega) (by omega)]; omega), show 4 ^ l + 4 ^ l = 2 * 4 ^ l by omega]⟩
  | succ j ih =>
    intro g k P L hk hg hL
    obtain ⟨g', rfl⟩ : ∃ g', g = g' + 1 := ⟨g - 1, by omega⟩
    obtain ⟨P1, h1, hP1⟩ := aT P hN h (show l ≤ 6 by omega) (show k < 4 ^ l by omega)
    rw [f_X5_mostAlike_21, if_neg (by rw [le_n (by omega) (by omega)]; omega), h1, Option.bind_some, A1r, Nat.add_assoc]
    dsimp only
    by_cases q : fitB n D F T I C t l k n = true
    · have hP := hP1 q
      obtain ⟨p1, p2⟩ := pgl_ok h.1 (show k < 4 ^ l by omega) n (by omega) c hc
      have e := hP c hc
      have hct := ctp_le (fit := fun k => fitB n D F T I C t l k n) (pg := fun k => pgl D F T I C l k n c) (x := pgl D F T I C l k n c) (k := k)
      have hy := ctp_y (fit := fun k => fitB n D F T I C t l k n) (pg := fun k => pgl D F T I C l k n c) (x := pgl D F T I C l k n c) (k := k) q rfl
      have hL0 : L (4 ^ (pgl D F T I C l k n c).1 + (pgl D F T I C l k n c).2) = lN (ctp (fun k => fitB n D F T I C t l k n) (fun k => pgl D F T I C l k n c) (pgl D F T I C l k n c) k) := hL (pgl D F T I C l k n c).1 (pgl D F T I C l k n c).2 (by omega) p2
      have hlt : 4 ^ (pgl D F T I C l k n c).1 + (pgl D F T I C l k n c).2 < 2048 := by
        have := p4_le5 (show (pgl D F T I C l k n c).1 ≤ 5 by omega)
        omega
      have hmx := mxp_le (fit := fun k => fitB n D F T I C t l k n) (pg := fun k => pgl D F T I C l k n c) k
      have pp : f_X3_putPage N (P1 c) L = some (nI (ctp (fun k => fitB n D F T I C t l k n) (fun k => pgl D F T I C l k n c) (pgl D F T I C l k n c) (k + 1)), vp_updL L (4 ^ (pgl D F T I C l k n c).1 + (pgl D F T I C l k n c).2) (lN (ctp (fun k => fitB n D F T I C t l k n) (fun k => pgl D F T I C l k n c) (pgl D F T I C l k n c) (k + 1)))) := by
        unfold f_X3_putPage
        rw [e, if_neg (nI_pos (by omega)), if_pos (by rw [L2048, lt_n (by omega) (by omega)]; exact hlt), gI_n hlt (by decide), gI_n hlt (by decide), gI_n hlt (by decide), cl_n (by omega), hL0, (lNp1 _ (by omega)).1, upL_s, (lNp1 _ (by omega)).2, hy]
      rw [if_pos q, if_neg n10, gI_n (by omega) (by omega), cl_n (by omega), pp, Option.bind_some]
      dsimp only
      have em : (if nI (mxp (fun k => fitB n D F T I C t l k n) (fun k => pgl D F T I C l k n c) k) < nI (ctp (fun k => fitB n D F T I C t l k n) (fun k => pgl D F T I C l k n c) (pgl D F T I C l k n c) (k + 1)) then nI (ctp (fun k => fitB n D F T I C t l k n) (fun k => pgl D F T I C l k n c) (pgl D F T I C l k n c) (k + 1)) else nI (mxp (fun k => fitB n D F T I C t l k n) (fun k => pgl D F T I C l k n c) k)) = nI (mxp (fun k => fitB n D F T I C t l k n) (fun k => pgl D F T I C l k n c) (k + 1)) := by
        rw [mxp, if_pos q]
        by_cases w : mxp (fun k => fitB n D F T I C t l k n) (fun k => pgl D F T I C l k n c) k < ctp (fun k => fitB n D F T I C t l k n) (fun k => pgl D F T I C l k n c) (pgl D F T I C l k n c) (k + 1)
        · rw [if_pos w, if_pos (by rw [lt_n (by omega) (by omega)]; exact w)]
        · rw [if_neg w, if_neg (by rw [lt_n (by omega) (by omega)]; exact w)]
      rw [em]
      refine ih g' (k + 1) P1 _ (by omega) (by omega) (fun a b ha hb => ?_)
      by_cases w : pgl D F T I C l k n c = (a, b)
      · rw [w, upL_s]
      · rw [upL_n, hL a b ha hb, ctp_n (pg := fun k => pgl D F T I C l k n c) w]
        intro z
        obtain ⟨z1, z2⟩ := rC_inj hb p2 z
        exact w (by rw [z1, z2])
    · rw [if_neg q, if_pos z00]
      have em : mxp (fun k => fitB n D F T I C t l k n) (fun k => pgl D F T I C l k n c) (k + 1) = mxp (fun k => fitB n D F T I C t l k n) (fun k => pgl D F T I C l k n c) k := by
        rw [mxp, if_neg q]
      rw [← em]
      exact ih g' (k + 1) P1 L (by omega) (by omega) (fun a b ha hb => by rw [hL a b ha hb, ctp_f (fit := fun k => fitB n D F T I C t l k n) q])
theorem maX {N n l c : Nat} {D F T I C : Nat → Nat} {t : Nat → Option (Nat × Nat)} {bd bf bt bi bc to md mi mn mt : Nat → Int32} (P : Nat → Int32) (L : Nat → Int64) (hN : 200000 ≤ N) (h : Cx n D F T I C t bd bf bt bi bc to md mi mn mt) (hl : l ≤ 5) (hc : c < n) : ∃ P' L', f_X5_mostAlike N (nI l) (nI c) (nI n) bd bf bt bi bc P L to = some (nI (mxp (fun k => fitB n D F T I C t l k n) (fun k => pgl D F T I C l k n c) (4 ^ l)), (P', L')) := by
  have hp := p4_le5 hl
  obtain ⟨L1, f1, f2⟩ := fillL (N := N) (n := 2048) (0:Int64) L hN (by decide)
  obtain ⟨P', L', h2⟩ := maX_loop hN h hl hc (fun z3_21 z5_21 zvt_bench_pages_21 zvt_drawers_lying_21 => some (z3_21, (zvt_bench_pages_21, zvt_drawers_lying_21))) (4 ^ l) N 0 P L1 (by omega) (by omega) (fun a b ha hb => by
    have := p4_le5 ha
    rw [f2 _ (by omega)]; rfl)
  refine ⟨P', L', ?_⟩
  unfold f_X5_mostAlike f_X3_clear
  rw [f1, Option.bind_some, Option.bind_some, eO (by omega), Option.bind_some, fO (by omega), Option.bind_some]
  exact h2
theorem clr_loop {N : Nat} (kk : Int32 → (Nat → Int32) → Option (Int32 × (Nat → Int32) × (Nat → Int32))) : ∀ (j g k : Nat) (A : Nat → Int32), k + j = 28672 → j < g → (∀ i, i < k → A i = 0) → ∃ A', f_X6_mostAlike_2 N kk g (nI k) A = kk (nI 28672) A' ∧ ∀ i, i < 28672 → A' i = 0 := by
  intro j
  induction j with
  | zero =>
    intro g k A hk hg hA
    obtain ⟨g', rfl⟩ : ∃ g', g = g' + 1 := ⟨g - 1, by omega⟩
    have : k = 28672 := by omega
    subst this
    exact ⟨A, by rw [f_X6_mostAlike_2, if_pos (by rw [L28672, le_n (by omega) (by omega)]; omega)], hA⟩
  | succ j ih =>
    intro g k A hk hg hA
    obtain ⟨g', rfl⟩ : ∃ g', g = g' + 1 := ⟨g - 1, by omega⟩
    rw [f_X6_mostAlike_2, if_neg (by rw [L28672, le_n (by omega) (by omega)]; omega), gI_n (by omega) (by omega), cl_n (by omega), A1r]
    refine ih g' (k + 1) _ (by omega) (by omega) (fun i hi => ?_)
    by_cases e : i = k
    · subst e; rw [up_s]
    · rw [up_n e]; exact hA i (by omega)
theorem maM_loop {N n l c : Nat} {D F T I C : Nat → Nat} {t : Nat → Option (Nat × Nat)} {bd bf bt bi bc to md mi mn mt : Nat → Int32} (hN : 200000 ≤ N) (h : Cx n D F T I C t bd bf bt bi bc to md mi mn mt) (hl : l ≤ 5) (hc : c < n) (kk : Int32 → Int32 → (Nat → Int32) → (Nat → Int32) → Option (Int32 × (Nat → Int32) × (Nat → Int32))) :
    ∀ (j g k : Nat) (P : Nat → Int32) (L : Nat → Int32), k + j = 4 ^ l → j < g → (∀ a b, a ≤ 5 → b < 4 ^ a → L (4096 * a + b) = nI (ctp (fun k => fitB n D F T I C t l k n) (fun k => pgl D F T I C l k n c) (a, b) k)) → ∃ P' L', f_X6_mostAlike_27 N (nI c) (nI l) (nI n) md mi mn mt kk g (nI (mxp (fun k => fitB n D F T I C t l k n) (fun k => pgl D F T I C l k n c) k)) (nI k) P L = kk (nI (mxp (fun k => fitB n D F T I C t l k n) (fun k => pgl D F T I C l k n c) (4 ^ l))) (nI (4 ^ l)) P' L' := by
  have hp := p4_le5 hl
  have hn := h.1.1
  intro j
  induction j with
  | zero =>
    intro g k P L hk hg _
    obtain ⟨g', rfl⟩ : ∃ g', g = g' + 1 := ⟨g - 1, by omega⟩
    have : k = 4 ^ l := by omega
    subst this
    exact ⟨P, L, by rw [f_X6_mostAlike_27, fT (by omega), Option.bind_some, if_pos (by rw [le_n (by omega) (by omega)]; omega)]⟩
  | succ j ih =>
    intro g k P L hk hg hL
    obtain ⟨g', rfl⟩ : ∃ g', g = g' + 1 := ⟨g - 1, by omega⟩
    obtain ⟨P1, h1, hP⟩ := iF P hN h (show l ≤ 6 by omega) (show k < 4 ^ l by omega)
    rw [f_X6_mostAlike_27, fT (by omega), Option.bind_some, if_neg (by rw [le_n (by omega) (by omega)]; omega), mulL, add_n, h1, Option.bind_some, A1r]
    dsimp only
    by_cases q : fitB n D F T I C t l k n = true
    · obtain ⟨p1, p2⟩ := pgl_ok h.1 (show k < 4 ^ l by omega) n (by omega) c hc
      have e := hP c hc
      have hct := ctp_le (fit := fun k => fitB n D F T I C t l k n) (pg := fun k => pgl D F T I C l k n c) (x := pgl D F T I C l k n c) (k := k)
      have hy := ctp_y (fit := fun k => fitB n D F T I C t l k n) (pg := fun k => pgl D F T I C l k n c) (x := pgl D F T I C l k n c) (k := k) q rfl
      have hL0 := hL (pgl D F T I C l k n c).1 (pgl D F T I C l k n c).2 (by omega) p2
      have hlt : 4096 * (pgl D F T I C l k n c).1 + (pgl D F T I C l k n c).2 < 28672 := by
        have := p4_le5 (show (pgl D F T I C l k n c).1 ≤ 5 by omega)
        omega
      have hmx := mxp_le (fit := fun k => fitB n D F T I C t l k n) (pg := fun k => pgl D F T I C l k n c) k
      rw [if_pos q, if_neg n10]
      simp only [cl_n (show c < 2147483648 by omega), e, gI_n (show c < 4 by omega) (show (4:Nat) < 2147483648 by decide), gI_n hlt (show (28672:Nat) < 2147483648 by decide), cl_n (show 4096 * (pgl D F T I C l k n c).1 + (pgl D F T I C l k n c).2 < 2147483648 by omega), up_s, hL0, A1r]
      rw [show ctp (fun k => fitB n D F T I C t l k n) (fun k => pgl D F T I C l k n c) ((pgl D F T I C l k n c).1, (pgl D F T I C l k n c).2) k + 1 = ctp (fun k => fitB n D F T I C t l k n) (fun k => pgl D F T I C l k n c) (pgl D F T I C l k n c) (k + 1) from hy.symm]
      have hL1 : ∀ a b, a ≤ 5 → b < 4 ^ a → upd L (4096 * (pgl D F T I C l k n c).1 + (pgl D F T I C l k n c).2) (nI (ctp (fun k => fitB n D F T I C t l k n) (fun k => pgl D F T I C l k n c) (pgl D F T I C l k n c) (k + 1))) (4096 * a + b) = nI (ctp (fun k => fitB n D F T I C t l k n) (fun k => pgl D F T I C l k n c) (a, b) (k + 1)) := by
        intro a b ha hb
        by_cases w : pgl D F T I C l k n c = (a, b)
        · rw [w, up_s]
        · rw [up_n, hL a b ha hb, ctp_n (pg := fun k => pgl D F T I C l k n c) w]
          intro z
          have z0 := p4_le5 ha
          have z3 := p4_le5 (show (pgl D F T I C l k n c).1 ≤ 5 by omega)
          have z1 : a = (pgl D F T I C l k n c).1 := by omega
          have z2 : b = (pgl D F T I C l k n c).2 := by omega
          exact w (by rw [z1, z2])
      have em : mxp (fun k => fitB n D F T I C t l k n) (fun k => pgl D F T I C l k n c) (k + 1) = if mxp (fun k => fitB n D F T I C t l k n) (fun k => pgl D F T I C l k n c) k < ctp (fun k => fitB n D F T I C t l k n) (fun k => pgl D F T I C l k n c) (pgl D F T I C l k n c) (k + 1) then ctp (fun k => fitB n D F T I C t l k n) (fun k => pgl D F T I C l k n c) (pgl D F T I C l k n c) (k + 1) else mxp (fun k => fitB n D F T I C t l k n) (fun k => pgl D F T I C l k n c) k := by
        rw [mxp, if_pos q]
      by_cases w : mxp (fun k => fitB n D F T I C t l k n) (fun k => pgl D F T I C l k n c) k < ctp (fun k => fitB n D F T I C t l k n) (fun k => pgl D F T I C l k n c) (pgl D F T I C l k n c) (k + 1)
      · rw [if_neg (by rw [le_n (by omega) (by omega)]; omega)]
        rw [if_pos w] at em
        have := ih g' (k + 1) P1 _ (by omega) (by omega) hL1
        rw [em] at this
        exact this
      · rw [if_pos (by rw [le_n (by omega) (by omega)]; omega)]
        rw [if_neg w] at em
        have := ih g' (k + 1) P1 _ (by omega) (by omega) hL1
        rw [em] at this
        exact this
    · rw [if_neg q, if_pos z00]
      have em : mxp (fun k => fitB n D F T I C t l k n) (fun k => pgl D F T I C l k n c) (k + 1) = mxp (fun k => fitB n D F T I C t l k n) (fun k => pgl D F T I C l k n c) k := by
        rw [mxp, if_neg q]
      rw [← em]
      exact ih g' (k + 1) P1 L (by omega) (by omega) (fun a b ha hb => by rw [hL a b ha hb, ctp_f (fit := fun k => fitB n D F T I C t l k n) q])
theorem maM {N n l c : Nat} {D F T I C : Nat → Nat} {t : Nat → Option (Nat × Nat)} {bd bf bt bi bc to md mi mn mt : Nat → Int32} (P A : Nat → Int32) (hN : 200000 ≤ N) (h : Cx n D F T I C t bd bf bt bi bc to md mi mn mt) (hl : l ≤ 5) (hc : c < n) : ∃ P' A', f_X6_mostAlike N (nI c) (nI l) (nI n) md mi mn mt P A = some (nI (mxp (fun k => fitB n D F T I C t l k n) (fun k => pgl D F T I C l k n c) (4 ^ l)), (P', A')) := by
  have hp := p4_le5 hl
  obtain ⟨A1', f1, f2⟩ := clr_loop (N := N) (fun z3_2 zvt_alike_2 => f_X6_mostAlike_27 N (nI c) (nI l) (nI n) md mi mn mt (fun z3_27 z4_27 zvt_pages_27 zvt_alike_27 => some (z3_27, (zvt_pages_27, zvt_alike_27))) N (0:Int32) (0:Int32) P zvt_alike_2) 28672 N 0 A (by omega) (by omega) (fun i hi => by omega)
  obtain ⟨P', A', h2⟩ := maM_loop hN h hl hc (fun z3_27 z4_27 zvt_pages_27 zvt_alike_27 => some (z3_27, (zvt_pages_27, zvt_alike_27))) (4 ^ l) N 0 P A1' (by omega) (by omega) (fun a b ha hb => by
    have := p4_le5 ha
    rw [f2 _ (by omega)]; rfl)
  exact ⟨P', A', f1.trans h2⟩
theorem tr_go {N n l k0 : Nat} {D F T I C : Nat → Nat} {t : Nat → Option (Nat × Nat)} {bd bf bt bi bc to md mi mn mt : Nat → Int32} (hN : 200000 ≤ N) (h : Cx n D F T I C t bd bf bt bi bc to md mi mn mt) (hl : l ≤ 5) (hk0 : k0 < 4 ^ l) (hf : fitB n D F T I C t l k0 n = true) :
    ∀ (j g c : Nat) (y s : Int32) (P Q : Nat → Int32) (L : Nat → Int64) (A : Nat → Int32), c + j = n → j < g → (y = -9 ∨ ∃ b, b < c ∧ y = nI b) → ∃ r P' L' Q' A', f_X5_toRead_19 N (nI l) (nI n) bd bf bt bi bc to (fun z2_19 z3_19 z4_19 zvt_bench_pages_19 zvt_drawers_lying_19 => some (z2_19, (zvt_bench_pages_19, zvt_drawers_lying_19))) g y s (nI c) P L = some (r, (P', L')) ∧ f_X6_toRead_36 N (nI l) (nI n) md mi mn mt (fun z2_36 z3_36 z4_36 zvt_pages_36 zvt_alike_36 => some (z2_36, (zvt_pages_36, zvt_alike_36))) g y s (nI c) Q A = some (r, (Q', A')) := by
  have hp := p4_le5 hl
  have hn := h.1.1
  intro j
  induction j with
  | zero =>
    intro g c y s P Q L A hc hg _
    obtain ⟨g', rfl⟩ : ∃ g', g = g' + 1 := ⟨g - 1, by omega⟩
    have : c = n := by omega
    subst this
    exact ⟨y, P, L, Q, A, by rw [f_X5_toRead_19, if_pos (by rw [le_n (by omega) (by omega)]; omega)], by rw [f_X6_toRead_36, if_pos (by rw [le_n (by omega) (by omega)]; omega)]⟩
  | succ j ih =>
    intro g c y s P Q L A hc hg hy
    obtain ⟨g', rfl⟩ : ∃ g', g = g' + 1 := ⟨g - 1, by omega⟩
    have hy' : y = -9 ∨ ∃ b, b < c + 1 ∧ y = nI b := by
      rcases hy with e | ⟨b, hb, e⟩
      · exact Or.inl e
      · exact Or.inr ⟨b, by omega, e⟩
    rw [f_X5_toRead_19, if_neg (show ¬ nI n ≤ nI c by rw [le_n (by omega) (by omega)]; omega), f_X6_toRead_36, if_neg (show ¬ nI n ≤ nI c by rw [le_n (by omega) (by omega)]; omega), A1r, gI_n (by omega) (by omega), gI_n (by omega) (by omega), cl_n (by omega)]
    rcases toldCase N hN h.2.2.2 hn (show c < n by omega) with ⟨-, t1, t2, -, -⟩ | ⟨a, b, -, -, -, -, -, t3, t4, -, -⟩
    · rw [if_pos t1, if_pos t2]
      obtain ⟨P1, L1, g1⟩ := maX P L hN h hl (show c < n by omega)
      obtain ⟨Q1, A1', g2⟩ := maM Q A hN h hl (show c < n by omega)
      have hpos := mxp_pos (fit := fun k => fitB n D F T I C t l k n) (pg := fun k => pgl D F T I C l k n c) hk0 hf
      have hmx := mxp_le (fit := fun k => fitB n D F T I C t l k n) (pg := fun k => pgl D F T I C l k n c) (4 ^ l)
      rw [g1, g2, Option.bind_some, Option.bind_some]
      dsimp only
      rw [if_neg (by rw [L0, le_n (by omega) (by omega)]; omega)]
      by_cases y9 : y = -9
      · rw [if_pos y9, if_pos y9, if_pos rfl]
        exact ih g' (c + 1) _ _ _ _ _ _ (by omega) (by omega) (Or.inr ⟨c, by omega, rfl⟩)
      · rw [if_neg y9, if_neg y9]
        have hyc : ¬ y = nI c := by
          rcases hy with e | ⟨b, hb, e⟩
          · exact absurd e y9
          · rw [e, eq_n (by omega) (by omega)]; omega
        by_cases w : s ≤ nI (mxp (fun k => fitB n D F T I C t l k n) (fun k => pgl D F T I C l k n c) (4 ^ l))
        · rw [if_pos w, if_pos w, if_neg hyc]
          exact ih g' (c + 1) _ _ _ _ _ _ (by omega) (by omega) hy'
        · rw [if_neg w, if_neg w, if_pos rfl]
          exact ih g' (c + 1) _ _ _ _ _ _ (by omega) (by omega) (Or.inr ⟨c, by omega, rfl⟩)
    · rw [if_neg t3, if_neg t4]
      exact ih g' (c + 1) _ _ _ _ _ _ (by omega) (by omega) hy'
theorem tr_no {N n l : Nat} {D F T I C : Nat → Nat} {t : Nat → Option (Nat × Nat)} {bd bf bt bi bc to md mi mn mt : Nat → Int32} (hN : 200000 ≤ N) (h : Cx n D F T I C t bd bf bt bi bc to md mi mn mt) (hl : l ≤ 5) (hno : ∀ i, i < 4 ^ l → ¬ fitB n D F T I C t l i n = true) :
    ∀ (j g c : Nat) (s : Int32) (P : Nat → Int32) (L : Nat → Int64), c + j = n → j < g → ∃ P' L', f_X5_toRead_19 N (nI l) (nI n) bd bf bt bi bc to (fun z2_19 z3_19 z4_19 zvt_bench_pages_19 zvt_drawers_lying_19 => some (z2_19, (zvt_bench_pages_19, zvt_drawers_lying_19))) g (-9) s (nI c) P L = some (-9, (P', L')) := by
  have hp := p4_le5 hl
  have hn := h.1.1
  intro j
  induction j with
  | zero =>
    intro g c s P L hc hg
    obtain ⟨g', rfl⟩ : ∃ g', g = g' + 1 := ⟨g - 1, by omega⟩
    have : c = n := by omega
    subst this
    exact ⟨P, L, by rw [f_X5_toRead_19, if_pos (by rw [le_n (by omega) (by omega)]; omega)]⟩
  | succ j ih =>
    intro g c s P L hc hg
    obtain ⟨g', rfl⟩ : ∃ g', g = g' + 1 := ⟨g - 1, by omega⟩
    rw [f_X5_toRead_19, if_neg (by rw [le_n (by omega) (by omega)]; omega), A1r, gI_n (by omega) (by omega), cl_n (by omega)]
    by_cases t1 : to c = 0
    · rw [if_pos t1]
      obtain ⟨P1, L1, g1⟩ := maX P L hN h hl (show c < n by omega)
      rw [g1, Option.bind_some, mxp_zero (fit := fun k => fitB n D F T I C t l k n) hno]
      dsimp only
      rw [if_pos (by decide)]
      exact ih g' (c + 1) _ _ _ (by omega) (by omega)
    · rw [if_neg t1]
      exact ih g' (c + 1) _ _ _ (by omega) (by omega)
