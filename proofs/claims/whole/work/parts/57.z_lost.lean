theorem t52 {N n m v lf : Nat} {D F T I C : Nat → Nat} {md mi mn O : Nat → Int32} (hN : 200000 ≤ N) (hB : HabB n D F T I C) (hHM : HabM n D F T I C md mi mn) (hm : m ≤ 5) (hv : v < 4 ^ m) (h0 : mn 0 = nI (4096 * m + v)) (hO : PgM D F T I C m v n O) (hlf : lf < 16) (kk : Int32 → Int32 → (Nat → Int32) → Option (Int32 × (Nat → Int32) × (Nat → Int32))) :
    ∀ (j g k : Nat) (P : Nat → Int32), k + j = 4 ^ m → j + 1 < g → allb (tlp D F T I C m v n lf) k = true → ∃ z P', f_X6_tells_52 N (nI lf) (nI n) md mi mn (nI m) O kk g 1 (nI k) P = kk (if tB D F T I C m v n lf = true then 1 else 0) z P' := by
  have hp := p4_le5 hm
  have hn := hB.1
  intro j
  induction j with
  | zero =>
    intro g k P hk hg ha
    obtain ⟨g', rfl⟩ : ∃ g', g = g' + 1 := ⟨g - 1, by omega⟩
    have : k = 4 ^ m := by omega
    subst this
    exact ⟨_, P, by rw [f_X6_tells_52, fT (by omega), Option.bind_some, if_pos (by rw [le_n (by omega) (by omega)]; omega), if_pos (show tB D F T I C m v n lf = true from ha)]⟩
  | succ j ih =>
    intro g k P hk hg ha
    obtain ⟨g', rfl⟩ : ∃ g', g = g' + 1 := ⟨g - 1, by omega⟩
    obtain ⟨P1, g1, hP1⟩ := lP9 P hN hB hHM (show m ≤ 6 by omega) (show k < 4 ^ m by omega)
    rw [f_X6_tells_52, fT (by omega), Option.bind_some, if_neg (by rw [le_n (by omega) (by omega)]; omega), if_neg n10, mulL, add_n, g1, Option.bind_some, h0, A1r]
    have yes : tlp D F T I C m v n lf k = true → ∃ z P', f_X6_tells_52 N (nI lf) (nI n) md mi mn (nI m) O kk g' 1 (nI (k + 1)) P1 = kk (if tB D F T I C m v n lf = true then 1 else 0) z P' := fun t => ih g' (k + 1) P1 (by omega) (by omega) (by rw [allb, ha, t]; rfl)
    by_cases e : k = v
    · have t0 : ∀ kk, f_X6_tells_106 N (nI lf) (nI n) O P1 kk N (0:Int32) (0:Int32) = kk 0 (nI n) := fun kk => t106_0 hn kk n N 0 (by omega) (by omega)
      rw [if_pos (by rw [e]), t0, if_pos z00]
      exact yes (by unfold tlp; rw [decide_eq_true e]; rfl)
    · rw [if_neg (by rw [eq_n (by omega) (by omega)]; omega)]
      have one : (if bb (fun c => !decide (pgl D F T I C m k n c = pgl D F T I C m v n c)) 0 &&& lf ≠ 0 then (0:Int32) else 1) = 1 := by
        rw [if_neg]; intro z; exact z (by show 0 &&& lf = 0; exact Nat.zero_and lf)
      have t1 := t106_1 (N := N) hB (show m ≤ 6 by omega) hv (show k < 4 ^ m by omega) hP1 hO hlf (fun z5_106 z6_106 => if z5_106 = (0:Int32) then f_X6_tells_52 N (nI lf) (nI n) md mi mn (nI m) O kk g' (1:Int32) (nI (k + 1)) P1 else f_X6_tells_52 N (nI lf) (nI n) md mi mn (nI m) O kk g' (0:Int32) (nI (k + 1)) P1) n N 0 (by omega) (by omega)
      rw [one, show nI 0 = (0:Int32) from rfl] at t1
      rw [t1]
      by_cases u : unl D F T I C m v n k &&& lf ≠ 0
      · rw [if_pos u, if_pos z00]
        exact yes (by unfold tlp; rw [decide_eq_true u, Bool.or_true])
      · rw [if_neg u, if_neg n10]
        obtain ⟨g'', rfl⟩ : ∃ g'', g' = g'' + 1 := ⟨g' - 1, by omega⟩
        have no : ¬ tB D F T I C m v n lf = true := by
          intro z
          have := (allb_iff _ _).mp z k (by omega)
          unfold tlp at this
          rw [decide_eq_false e, decide_eq_false u] at this
          exact Bool.noConfusion this
        rw [if_neg no]
        refine ⟨nI (k + 1), P1, ?_⟩
        rw [f_X6_tells_52, fT (by omega), Option.bind_some, if_pos z00]
        split <;> rfl
theorem tellsM {N n m v lf : Nat} {D F T I C : Nat → Nat} {md mi mn : Nat → Int32} (P O : Nat → Int32) (hN : 200000 ≤ N) (hB : HabB n D F T I C) (hHM : HabM n D F T I C md mi mn) (hm : m ≤ 5) (hv : v < 4 ^ m) (h0 : mn 0 = nI (4096 * m + v)) (hlf : lf < 16) : ∃ P' O', f_X6_tells N (nI lf) (nI n) md mi mn P O = some (if tB D F T I C m v n lf = true then 1 else 0, (P', O')) := by
  have hp := p4_le5 hm
  have hn := hB.1
  obtain ⟨P1, g1, hP1⟩ := lP9 P hN hB hHM (show m ≤ 6 by omega) hv
  obtain ⟨O', o1, o2⟩ := own_loop (N := N) (X := P1) (fun z3_24 zvt_own_24 => f_X6_tells_52 N (nI lf) (nI n) md mi mn (nI m) zvt_own_24 (fun z3_52 z4_52 zvt_pages_52 => gZ z3_52 (some (z3_52, (zvt_pages_52, zvt_own_24)))) N (1:Int32) (0:Int32) P1) 4 N 0 O (by omega) (by omega) (fun i hi => by omega)
  obtain ⟨z, P', t⟩ := t52 hN hB hHM hm hv h0 (show PgM D F T I C m v n O' from fun c hc => by rw [o2 c (by omega)]; exact hP1 c hc) hlf (fun z3_52 z4_52 zvt_pages_52 => gZ z3_52 (some (z3_52, (zvt_pages_52, O')))) (4 ^ m) N 0 P1 (by omega) (by omega) rfl
  refine ⟨P', O', ?_⟩
  unfold f_X6_tells
  rw [h0, wO (by omega) hv, Option.bind_some, g1, Option.bind_some]
  refine Eq.trans o1 (Eq.trans t ?_)
  by_cases q : tB D F T I C m v n lf = true
  · rw [if_pos q, gZ_1]
  · rw [if_neg q, gZ_0]
theorem wt_le : ∀ n, n < 5 → ∀ lf, lf < 16 → ∀ a, a < 11 → wt a lf n ≤ 10000 := by decide +kernel
theorem loM_loop {N n m v a : Nat} {D F T I C : Nat → Nat} {md mi mn : Nat → Int32} (hN : 200000 ≤ N) (hB : HabB n D F T I C) (hHM : HabM n D F T I C md mi mn) (hm : m ≤ 5) (hv : v < 4 ^ m) (h0 : mn 0 = nI (4096 * m + v)) (ha : a ≤ 10) (kk : Int32 → Int32 → Int32 → (Nat → Int32) → (Nat → Int32) → Option (Int32 × (Nat → Int32) × (Nat → Int32))) :
    ∀ (j g lf : Nat) (P O : Nat → Int32), lf + j = 2 ^ n → j < g → ∃ P' O', f_X6_lost_40 N (nI a) (nI n) md mi mn kk g (nI (nu D F T I C m v n a lf)) (nI (smn (fun lf => wt a lf n) lf)) (nI lf) P O = kk (nI (nu D F T I C m v n a (2 ^ n))) (nI (smn (fun lf => wt a lf n) (2 ^ n))) (nI (2 ^ n)) P' O' := by
  have hn := hB.1
  have h16 : 2 ^ n ≤ 16 := Nat.pow_le_pow_right (n := 2) (by decide) hn
  intro j
  induction j with
  | zero =>
    intro g lf P O hl hg
    obtain ⟨g', rfl⟩ : ∃ g', g = g' + 1 := ⟨g - 1, by omega⟩
    have : lf = 2 ^ n := by omega
    subst this
    exact ⟨P, O, by rw [f_X6_lost_40, sh1 n (by omega), if_pos (by rw [le_n (by omega) (by omega)]; omega)]⟩
  | succ j ih =>
    intro g lf P O hl hg
    obtain ⟨g', rfl⟩ : ∃ g', g = g' + 1 := ⟨g - 1, by omega⟩
    have hw := wt_le n (by omega) lf (by omega) a (by omega)
    have es : smn (fun lf => wt a lf n) (lf + 1) = smn (fun lf => wt a lf n) lf + wt a lf n := rfl
    rw [f_X6_lost_40, sh1 n (by omega), if_neg (by rw [le_n (by omega) (by omega)]; omega), A1r, A0r]
    have w57 := fun kk => loW_loop (N := N) hn ha (show lf < 16 by omega) kk n N 0 (by omega) (by omega)
    have w57' : ∀ kk, f_X6_lost_57 N (nI a) (nI n) (nI lf) kk N (1:Int32) (0:Int32) = kk (nI (wt a lf n)) (nI n) := w57
    rw [w57']
    by_cases q : tB D F T I C m v n lf = true
    · have en : nu D F T I C m v n a (lf + 1) = nu D F T I C m v n a lf + wt a lf n := by
        unfold nu; rw [smn, if_pos q]
      by_cases z : wt a lf n = 0
      · rw [if_pos (by rw [z]; decide), add_n, ← es]
        have en2 : nu D F T I C m v n a (lf + 1) = nu D F T I C m v n a lf := by omega
        rw [← en2]
        exact ih g' (lf + 1) P O (by omega) (by omega)
      · obtain ⟨P1, O1, t⟩ := tellsM P O hN hB hHM hm hv h0 (show lf < 16 by omega)
        rw [if_neg (by rw [L0, le_n (by omega) (by omega)]; omega), t, Option.bind_some]
        dsimp only
        rw [if_neg (by rw [if_pos q]; exact n10), add_n, add_n, ← es, ← en]
        exact ih g' (lf + 1) P1 O1 (by omega) (by omega)
    · have en : nu D F T I C m v n a (lf + 1) = nu D F T I C m v n a lf := by
        unfold nu; rw [smn, if_neg q, Nat.add_zero]
      by_cases z : wt a lf n = 0
      · rw [if_pos (by rw [z]; decide), add_n, ← es, ← en]
        exact ih g' (lf + 1) P O (by omega) (by omega)
      · obtain ⟨P1, O1, t⟩ := tellsM P O hN hB hHM hm hv h0 (show lf < 16 by omega)
        rw [if_neg (by rw [L0, le_n (by omega) (by omega)]; omega), t, Option.bind_some]
        dsimp only
        rw [if_pos (by rw [if_neg q]), add_n, ← es, ← en]
        exact ih g' (lf + 1) P1 O1 (by omega) (by omega)
theorem smn_mono {f g : Nat → Nat} (h : ∀ i, f i ≤ g i) : ∀ k, smn f k ≤ smn g k := by
  intro k
  induction k with
  | zero => exact Nat.le_refl 0
  | succ k ih => have := h k; rw [smn, smn]; omega
