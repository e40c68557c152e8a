theorem loX_loop {N n m v a M : Nat} {D F T I C : Nat → Nat} {x5 : Int32 × (Nat → Int32) × (Nat → Int32)} (hN : 200000 ≤ N) (hn : n ≤ 4) (ha : a ≤ 10) (h5 : x5.1 = nI M) (hM : MaskR D F T I C m v n (4 ^ m) M) (kk : Int32 → Int32 → Option (Int32 × (Nat → Int32) × (Nat → Int32))) :
    ∀ (j g lf : Nat), lf + j = 2 ^ n → j < g → f_X5_lost_47 N (nI a) (nI n) x5 (nI (2 ^ n - 1)) kk g (nI (nu D F T I C m v n a lf)) (nI lf) = kk (nI (nu D F T I C m v n a (2 ^ n))) (nI (2 ^ n)) := by
  have h16 : 2 ^ n ≤ 16 := Nat.pow_le_pow_right (n := 2) (by decide) hn
  have hpos : 0 < 2 ^ n := Nat.pow_pos (by decide)
  intro j
  induction j with
  | zero =>
    intro g lf hl hg
    obtain ⟨g', rfl⟩ : ∃ g', g = g' + 1 := ⟨g - 1, by omega⟩
    have : lf = 2 ^ n := by omega
    subst this
    rw [f_X5_lost_47, if_pos (by rw [lt_n (by omega) (by omega)]; omega)]
  | succ j ih =>
    intro g lf hl hg
    obtain ⟨g', rfl⟩ : ∃ g', g = g' + 1 := ⟨g - 1, by omega⟩
    have step := ih g' (lf + 1) (by omega) (by omega)
    have hbc := bcn_le n (by omega) lf (by omega) (by omega)
    rw [f_X5_lost_47, if_neg (by rw [lt_n (by omega) (by omega)]; omega), h5, tT hN hn (by omega) hM, Option.bind_some, A1r]
    by_cases q : tB D F T I C m v n lf = true
    · rw [if_neg (by rw [if_pos q]; exact n10), bcJ N lf (by omega), Option.bind_some, L10, sub_n ha, pw hN (by omega), Option.bind_some, sub_n hbc, pw hN (by omega), Option.bind_some, mul_n, add_n, wt_eq n (by omega) lf (by omega) a (by omega) (by omega)]
      rw [nu, smn, if_pos q] at step
      exact step
    · rw [if_pos (by rw [if_neg q])]
      rw [nu, smn, if_neg q, Nat.add_zero] at step
      exact step
theorem loW_loop {N n a lf : Nat} (hn : n ≤ 4) (ha : a ≤ 10) (hlf : lf < 16) (kk : Int32 → Int32 → Option (Int32 × (Nat → Int32) × (Nat → Int32))) :
    ∀ (j g c : Nat), c + j = n → j < g → f_X6_lost_57 N (nI a) (nI n) (nI lf) kk g (nI (wt a lf c)) (nI c) = kk (nI (wt a lf n)) (nI n) := by
  intro j
  induction j with
  | zero =>
    intro g c hc hg
    obtain ⟨g', rfl⟩ : ∃ g', g = g' + 1 := ⟨g - 1, by omega⟩
    have : c = n := by omega
    subst this
    rw [f_X6_lost_57, if_pos (by rw [le_n (by omega) (by omega)]; omega)]
  | succ j ih =>
    intro g c hc hg
    obtain ⟨g', rfl⟩ : ∃ g', g = g' + 1 := ⟨g - 1, by omega⟩
    have step := ih g' (c + 1) (by omega) (by omega)
    rw [f_X6_lost_57, if_neg (by rw [le_n (by omega) (by omega)]; omega), hasM N c (by omega) lf hlf, Option.bind_some, A1r]
    by_cases q : lf.testBit c = true
    · rw [if_neg (by rw [if_pos q]; exact n10), L10, sub_n ha, mul_n]
      rw [wt, if_pos q] at step
      exact step
    · rw [if_pos (by rw [if_neg q]), mul_n]
      rw [wt, if_neg q] at step
      exact step
theorem own_loop {N : Nat} {X : Nat → Int32} (kk : Int32 → (Nat → Int32) → Option (Int32 × (Nat → Int32) × (Nat → Int32))) : ∀ (j g k : Nat) (O : Nat → Int32), k + j = 4 → j < g → (∀ i, i < k → O i = X i) → ∃ O', f_X6_tells_24 N X kk g (nI k) O = kk (nI 4) O' ∧ ∀ i, i < 4 → O' i = X i := by
  intro j
  induction j with
  | zero =>
    intro g k O hk hg hO
    obtain ⟨g', rfl⟩ : ∃ g', g = g' + 1 := ⟨g - 1, by omega⟩
    have : k = 4 := by omega
    subst this
    exact ⟨O, by rw [f_X6_tells_24, if_pos (by decide)], hO⟩
  | succ j ih =>
    intro g k O hk hg hO
    obtain ⟨g', rfl⟩ : ∃ g', g = g' + 1 := ⟨g - 1, by omega⟩
    rw [f_X6_tells_24, if_neg (by rw [L4, le_n (by omega) (by omega)]; omega), gI_n (by omega) (by omega), gI_n (by omega) (by omega), cl_n (by omega), A1r]
    refine ih g' (k + 1) _ (by omega) (by omega) (fun i hi => ?_)
    by_cases e : i = k
    · subst e; rw [up_s]
    · rw [up_n e]; exact hO i (by omega)
theorem bb_and : ∀ c, c < 4 → ∀ x, x < 16 → ∀ lf, lf < 16 → x < 2 ^ c → ((x + 2 ^ c) &&& lf ≠ 0 ↔ (x &&& lf ≠ 0 ∨ lf.testBit c = true)) := by
  have h : ∀ c, c < 4 → ∀ x, x < 16 → ∀ lf, lf < 16 → x < 2 ^ c → decide ((x + 2 ^ c) &&& lf ≠ 0) = (decide (x &&& lf ≠ 0) || lf.testBit c) := by decide +kernel
  intro c hc x hx lf hl hxc
  have := h c hc x hx lf hl hxc
  rw [← decide_eq_true_iff (p := (x + 2 ^ c) &&& lf ≠ 0), this, Bool.or_eq_true, decide_eq_true_iff]
/-- a row that is the trial's own: nothing is asked -/
theorem t106_0 {N n lf : Nat} {O P : Nat → Int32} (hn : n ≤ 4) (kk : Int32 → Int32 → Option (Int32 × (Nat → Int32) × (Nat → Int32))) : ∀ (j g c : Nat), c + j = n → j < g → f_X6_tells_106 N (nI lf) (nI n) O P kk g 0 (nI c) = kk 0 (nI n) := by
  intro j
  induction j with
  | zero =>
    intro g c hc hg
    obtain ⟨g', rfl⟩ : ∃ g', g = g' + 1 := ⟨g - 1, by omega⟩
    have : c = n := by omega
    subst this
    rw [f_X6_tells_106, if_pos (by rw [le_n (by omega) (by omega)]; omega)]
  | succ j ih =>
    intro g c hc hg
    obtain ⟨g', rfl⟩ : ∃ g', g = g' + 1 := ⟨g - 1, by omega⟩
    rw [f_X6_tells_106, if_neg (by rw [le_n (by omega) (by omega)]; omega), if_pos z00, A1r]
    exact ih g' (c + 1) (by omega) (by omega)
theorem t106_1 {N n m v k lf : Nat} {D F T I C : Nat → Nat} {O P : Nat → Int32} (hB : HabB n D F T I C) (hm : m ≤ 6) (hv : v < 4 ^ m) (hk : k < 4 ^ m) (hP : PgM D F T I C m k n P) (hO : PgM D F T I C m v n O) (hlf : lf < 16) (kk : Int32 → Int32 → Option (Int32 × (Nat → Int32) × (Nat → Int32))) :
    ∀ (j g c : Nat), c + j = n → j < g → f_X6_tells_106 N (nI lf) (nI n) O P kk g (if bb (fun c => !decide (pgl D F T I C m k n c = pgl D F T I C m v n c)) c &&& lf ≠ 0 then 0 else 1) (nI c) = kk (if unl D F T I C m v n k &&& lf ≠ 0 then 0 else 1) (nI n) := by
  have hn := hB.1
  intro j
  induction j with
  | zero =>
    intro g c hc hg
    obtain ⟨g', rfl⟩ : ∃ g', g = g' + 1 := ⟨g - 1, by omega⟩
    have : c = n := by omega
    subst this
    rw [f_X6_tells_106, if_pos (by rw [le_n (by omega) (by omega)]; omega)]
    rfl
  | succ j ih =>
    intro g c hc hg
    obtain ⟨g', rfl⟩ : ∃ g', g = g' + 1 := ⟨g - 1, by omega⟩
    by_cases z : bb (fun c => !decide (pgl D F T I C m k n c = pgl D F T I C m v n c)) c &&& lf ≠ 0
    · have up : ∀ d, bb (fun c => !decide (pgl D F T I C m k n c = pgl D F T I C m v n c)) (c + d) &&& lf ≠ 0 ∨ n < c + d := by
        intro d
        induction d with
        | zero => exact Or.inl z
        | succ d ihd =>
          by_cases w : n < c + (d + 1)
          · exact Or.inr w
          · left
            have b0 := ihd.resolve_right (by omega)
            have lt := bb_lt (fun c => !decide (pgl D F T I C m k n c = pgl D F T I C m v n c)) (c + d)
            have l16 : 2 ^ (c + d) ≤ 16 := Nat.pow_le_pow_right (n := 2) (by decide) (show c + d ≤ 4 by omega)
            by_cases p : (fun c => !decide (pgl D F T I C m k n c = pgl D F T I C m v n c)) (c + d) = true
            · rw [← Nat.add_assoc, bb_y p]
              exact (bb_and (c + d) (by omega) _ (by omega) lf hlf lt).mpr (Or.inl b0)
            · rw [← Nat.add_assoc, bb_f p]; exact b0
      have fin := (up (n - c)).resolve_right (by omega)
      rw [show c + (n - c) = n by omega] at fin
      rw [if_pos z, t106_0 hn kk (j + 1) (g' + 1) c hc hg]
      unfold unl
      rw [if_pos fin]
    · have step := ih g' (c + 1) (by omega) (by omega)
      obtain ⟨p1, p2⟩ := pgl_ok hB hk n (by omega) c (by omega)
      obtain ⟨q1, q2⟩ := pgl_ok hB hv n (by omega) c (by omega)
      have lt := bb_lt (fun c => !decide (pgl D F T I C m k n c = pgl D F T I C m v n c)) c
      have l16 : 2 ^ c ≤ 16 := Nat.pow_le_pow_right (n := 2) (by decide) (show c ≤ 4 by omega)
      have ba := bb_and c (by omega) _ (by omega) lf hlf lt
      rw [if_neg z, f_X6_tells_106, if_neg (by rw [le_n (by omega) (by omega)]; omega), if_neg n10, hasM N c (by omega) lf hlf, Option.bind_some, A1r, gI_n (by omega) (by omega), gI_n (by omega) (by omega), cl_n (by omega), hP c (by omega), hO c (by omega)]
      by_cases e : pgl D F T I C m k n c = pgl D F T I C m v n c
      · rw [bb_f (by show ¬ (!decide (pgl D F T I C m k n c = pgl D F T I C m v n c)) = true; rw [decide_eq_true e]; exact Bool.noConfusion), if_neg z] at step
        by_cases t : lf.testBit c = true
        · rw [if_neg (by rw [if_pos t]; exact n10), if_pos (by rw [e])]
          exact step
        · rw [if_pos (by rw [if_neg t])]
          exact step
      · rw [bb_y (by show (!decide (pgl D F T I C m k n c = pgl D F T I C m v n c)) = true; rw [decide_eq_false e]; rfl)] at step
        by_cases t : lf.testBit c = true
        · rw [if_neg (by rw [if_pos t]; exact n10), if_neg (by rw [rM_eq (by omega) (by omega) p2 q2]; exact e)]
          rw [if_pos (ba.mpr (Or.inr t))] at step
          exact step
        · rw [if_pos (by rw [if_neg t])]
          rw [if_neg (fun y => (ba.mp y).elim z t)] at step
          exact step
