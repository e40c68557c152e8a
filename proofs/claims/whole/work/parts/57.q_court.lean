/-! a court read from its text -/
theorem fillI_loop {N n : Nat} (a : Int32) (hn : n < 100000) (kk : Int32 → (Nat → Int32) → Option (Nat → Int32)) : ∀ (j g k : Nat) (f : Nat → Int32), k + j = n → j < g → (∀ i, i < k → f i = a) → ∃ f', f_J7_fill_53178_5 N a n kk g (nI k) f = kk (nI n) f' ∧ ∀ i, i < n → f' i = a := by
  intro j
  induction j with
  | zero =>
    intro g k f hk hg hf
    obtain ⟨g', rfl⟩ : ∃ g', g = g' + 1 := ⟨g - 1, by omega⟩
    have : k = n := by omega
    subst this
    exact ⟨f, by rw [f_J7_fill_53178_5, if_pos (show Int32.ofNat k ≤ nI k from (le_n (a := k) (b := k) (by omega) (by omega)).mpr (by omega))], hf⟩
  | succ j ih =>
    intro g k f hk hg hf
    obtain ⟨g', rfl⟩ : ∃ g', g = g' + 1 := ⟨g - 1, by omega⟩
    rw [f_J7_fill_53178_5, if_neg (show ¬ Int32.ofNat n ≤ nI k from fun z => absurd ((le_n (a := n) (b := k) (by omega) (by omega)).mp z) (by omega)), gI_n (by omega) (by omega), cl_n (by omega), A1r]
    refine ih g' (k + 1) _ (by omega) (by omega) (fun i hi => ?_)
    by_cases e : i = k
    · subst e; rw [up_s]
    · rw [up_n e]; exact hf i (by omega)
theorem fillI {N n : Nat} (a : Int32) (f : Nat → Int32) (hN : 200000 ≤ N) (hn : n < 100000) : ∃ f', f_J7_fill_53178 N a n f = some f' ∧ ∀ i, i < n → f' i = a := by
  unfold f_J7_fill_53178
  exact fillI_loop a hn (fun z2_5 zvp0_5 => some zvp0_5) n N 0 f (by omega) (by omega) (fun i hi => by omega)
theorem fillL_loop {N n : Nat} (a : Int64) (hn : n < 100000) (kk : Int32 → (Nat → Int64) → Option (Nat → Int64)) : ∀ (j g k : Nat) (f : Nat → Int64), k + j = n → j < g → (∀ i, i < k → f i = a) → ∃ f', f_J7_fill_d0a16_6 N a n kk g (nI k) f = kk (nI n) f' ∧ ∀ i, i < n → f' i = a := by
  intro j
  induction j with
  | zero =>
    intro g k f hk hg hf
    obtain ⟨g', rfl⟩ : ∃ g', g = g' + 1 := ⟨g - 1, by omega⟩
    have : k = n := by omega
    subst this
    exact ⟨f, by rw [f_J7_fill_d0a16_6, if_pos (show Int32.ofNat k ≤ nI k from (le_n (a := k) (b := k) (by omega) (by omega)).mpr (by omega))], hf⟩
  | succ j ih =>
    intro g k f hk hg hf
    obtain ⟨g', rfl⟩ : ∃ g', g = g' + 1 := ⟨g - 1, by omega⟩
    rw [f_J7_fill_d0a16_6, if_neg (show ¬ Int32.ofNat n ≤ nI k from fun z => absurd ((le_n (a := n) (b := k) (by omega) (by omega)).mp z) (by omega)), gI_n (by omega) (by omega), cl_n (by omega), A1r]
    refine ih g' (k + 1) _ (by omega) (by omega) (fun i hi => ?_)
    by_cases e : i = k
    · subst e; rw [upL_s]
    · rw [upL_n e]; exact hf i (by omega)
theorem fillL {N n : Nat} (a : Int64) (f : Nat → Int64) (hN : 200000 ≤ N) (hn : n < 100000) : ∃ f', f_J7_fill_d0a16 N a n f = some f' ∧ ∀ i, i < n → f' i = a := by
  unfold f_J7_fill_d0a16
  exact fillL_loop a hn (fun z3_6 zvp0_6 => some zvp0_6) n N 0 f (by omega) (by omega) (fun i hi => by omega)
def ltr (tn : Nat) (L : Nat → Int32) (c w : Nat) : Int32 := if tn ≤ 1 + 6 * c + w then 45 else L (1 + 6 * c + w)
def nOF (b f : Int32) : Int32 := if b = 45 then 0 else b - f + 1
def sgn (b f : Int32) : Int32 := if b = 45 then -9 else b - f
theorem lO {N tn c w : Nat} (L : Nat → Int32) (htn : tn ≤ 32) (hc : c < 4) (hw : w ≤ 5) : f_X2_letterOf N (nI c) (nI w) (nI tn) L = some (ltr tn L c w) := by
  unfold f_X2_letterOf ltr
  rw [show (6:Int32) * nI c = nI (6 * c) from mul_n 6 c, A1, add_n, if_neg (nI_pos (by omega)), gI_n (by omega) (by omega), cl_n (by omega)]
  by_cases h : tn ≤ 1 + 6 * c + w
  · rw [if_pos (by rw [le_n (by omega) (by omega)]; exact h), if_pos h]
  · rw [if_neg (by rw [le_n (by omega) (by omega)]; exact h), if_neg h]
theorem nO (N : Nat) (b f : Int32) : f_X1_noneOrFrom N b f = some (nOF b f) := by
  unfold f_X1_noneOrFrom nOF
  split <;> rfl
theorem rF_loop {N tn : Nat} (L : Nat → Int32) (htn : tn ≤ 32) (kk : Int32 → (Nat → Int32) → (Nat → Int32) → (Nat → Int32) → (Nat → Int32) → (Nat → Int32) → Option (Int32 × (Nat → Int32) × (Nat → Int32) × (Nat → Int32) × (Nat → Int32) × (Nat → Int32))) :
    ∀ (j g c : Nat) (d f t i p : Nat → Int32), c + j = 4 → j < g → (∀ x, x < c → d x = nOF (ltr tn L x 1) 97 ∧ f x = nOF (ltr tn L x 2) 97 ∧ t x = nOF (ltr tn L x 3) 97 ∧ i x = ltr tn L x 4 - 48 ∧ p x = nOF (ltr tn L x 5) 48) → ∃ d' f' t' i' p', f_X1_readFrom_14 N (nI tn) L kk g (nI c) d f t i p = kk (nI 4) d' f' t' i' p' ∧ ∀ x, x < 4 → d' x = nOF (ltr tn L x 1) 97 ∧ f' x = nOF (ltr tn L x 2) 97 ∧ t' x = nOF (ltr tn L x 3) 97 ∧ i' x = ltr tn L x 4 - 48 ∧ p' x = nOF (ltr tn L x 5) 48 := by
  intro j
  induction j with
  | zero =>
    intro g c d f t i p hc hg h
    obtain ⟨g', rfl⟩ : ∃ g', g = g' + 1 := ⟨g - 1, by omega⟩
    have : c = 4 := by omega
    subst this
    exact ⟨d, f, t, i, p, by rw [f_X1_readFrom_14, if_pos (by decide)], h⟩
  | succ j ih =>
    intro g c d f t i p hc hg h
    obtain ⟨g', rfl⟩ : ∃ g', g = g' + 1 := ⟨g - 1, by omega⟩
    have l1 := lO (N := N) L htn (show c < 4 by omega) (show 1 ≤ 5 by omega)
    have l2 := lO (N := N) L htn (show c < 4 by omega) (show 2 ≤ 5 by omega)
    have l3 := lO (N := N) L htn (show c < 4 by omega) (show 3 ≤ 5 by omega)
    have l4 := lO (N := N) L htn (show c < 4 by omega) (show 4 ≤ 5 by omega)
    have l5 := lO (N := N) L htn (show c < 4 by omega) (show 5 ≤ 5 by omega)
    rw [f_X1_readFrom_14, if_neg (by rw [L4, le_n (by omega) (by omega)]; omega)]
    rw [show f_X2_letterOf N (nI c) (1:Int32) (nI tn) L = _ from l1, Option.bind_some, nO, Option.bind_some]
    rw [show f_X2_letterOf N (nI c) (2:Int32) (nI tn) L = _ from l2, Option.bind_some, nO, Option.bind_some]
    rw [show f_X2_letterOf N (nI c) (3:Int32) (nI tn) L = _ from l3, Option.bind_some, nO, Option.bind_some]
    rw [show f_X2_letterOf N (nI c) (4:Int32) (nI tn) L = _ from l4, Option.bind_some]
    rw [show f_X2_letterOf N (nI c) (5:Int32) (nI tn) L = _ from l5, Option.bind_some, nO, Option.bind_some]
    simp only [gI_n (show c < 4 by omega) (show (4:Nat) < 2147483648 by decide), cl_n (show c < 2147483648 by omega), A1r]
    refine ih g' (c + 1) _ _ _ _ _ (by omega) (by omega) (fun x hx => ?_)
    by_cases e : x = c
    · subst e; rw [up_s, up_s, up_s, up_s, up_s]; exact ⟨rfl, rfl, rfl, rfl, rfl⟩
    · rw [up_n e, up_n e, up_n e, up_n e, up_n e]; exact h x (by omega)
theorem sg {N k : Nat} (f : Int32) (M : Nat → Int32) (hk : k < 32) : f_X6_sign N (nI k) f M = some (sgn (M k) f) := by
  unfold f_X6_sign sgn
  rw [gI_n (by omega) (by omega), gI_n (by omega) (by omega), cl_n (by omega)]
  split <;> rfl
theorem rM_loop {N n : Nat} (M : Nat → Int32) (hn : n ≤ 4) (kk : Int32 → (Nat → Int32) → (Nat → Int32) → (Nat → Int32) → (Nat → Int32) → Option (Int32 × Int32 × Int32 × (Nat → Int32) × (Nat → Int32) × (Nat → Int32) × (Nat → Int32) × (Nat → Int32))) :
    ∀ (j g c : Nat) (d i w o : Nat → Int32), c + j = 4 → j < g → (w 0 = 0 ∧ ∀ x, x < c → o x = -9 ∧ (x < n → d x = sgn (M (2 + 6 * x)) 97 ∧ w (1 + x) = sgn (M (3 + 6 * x)) 97 ∧ w (5 + x) = sgn (M (4 + 6 * x)) 97 ∧ i x = M (5 + 6 * x) - 48 ∧ w (9 + x) = sgn (M (6 + 6 * x)) 48)) → ∃ d' i' w' o', f_X6_court_34 N (nI (6 * n + 1)) M kk g (nI c) d i w o = kk (nI 4) d' i' w' o' ∧ (w' 0 = 0 ∧ ∀ x, x < 4 → o' x = -9 ∧ (x < n → d' x = sgn (M (2 + 6 * x)) 97 ∧ w' (1 + x) = sgn (M (3 + 6 * x)) 97 ∧ w' (5 + x) = sgn (M (4 + 6 * x)) 97 ∧ i' x = M (5 + 6 * x) - 48 ∧ w' (9 + x) = sgn (M (6 + 6 * x)) 48)) := by
  have en : (nI (6 * n + 1) - (1:Int32)) / (6:Int32) = nI n := by
    rw [L1, sub_n (by omega), L6, div_n (by omega) (by omega) (by omega), show (6 * n + 1 - 1) / 6 = n by omega]
  intro j
  induction j with
  | zero =>
    intro g c d i w o hc hg h
    obtain ⟨g', rfl⟩ : ∃ g', g = g' + 1 := ⟨g - 1, by omega⟩
    have : c = 4 := by omega
    subst this
    exact ⟨d, i, w, o, by rw [f_X6_court_34, if_pos (by decide)], h⟩
  | succ j ih =>
    intro g c d i w o hc hg h
    obtain ⟨g', rfl⟩ : ∃ g', g = g' + 1 := ⟨g - 1, by omega⟩
    obtain ⟨h0, h⟩ := h
    have s0 : (2:Int32) + (6:Int32) * nI c = nI (2 + 6 * c) := by rw [L6, mul_n, L2, add_n]
    have s1 : nI (2 + 6 * c) + (1:Int32) = nI (3 + 6 * c) := by rw [A1r]; congr 1; omega
    have s2 : nI (2 + 6 * c) + (2:Int32) = nI (4 + 6 * c) := by rw [L2, add_n]; congr 1; omega
    have s3 : nI (2 + 6 * c) + (3:Int32) = nI (5 + 6 * c) := by rw [L3, add_n]; congr 1; omega
    have s4 : nI (2 + 6 * c) + (4:Int32) = nI (6 + 6 * c) := by rw [L4, add_n]; congr 1; omega
    rw [f_X6_court_34, if_neg (by rw [L4, le_n (by omega) (by omega)]; omega), en, s0, s1, s2, s3, s4, A1, A5, A9, A1r]
    simp only [gI_n (show c < 4 by omega) (show (4:Nat) < 2147483648 by decide), gI_n (show 1 + c < 13 by omega) (show (13:Nat) < 2147483648 by decide), gI_n (show 5 + c < 13 by omega) (show (13:Nat) < 2147483648 by decide), gI_n (show 9 + c < 13 by omega) (show (13:Nat) < 2147483648 by decide), gI_n (show 5 + 6 * c < 32 by omega) (show (32:Nat) < 2147483648 by decide), cl_n (show c < 2147483648 by omega), cl_n (show 1 + c < 2147483648 by omega), cl_n (show 5 + c < 2147483648 by omega), cl_n (show 9 + c < 2147483648 by omega), cl_n (show 5 + 6 * c < 2147483648 by omega)]
    by_cases q : n ≤ c
    · rw [if_pos (by rw [le_n (by omega) (by omega)]; exact q)]
      refine ih g' (c + 1) _ _ _ _ (by omega) (by omega) ⟨by rw [up_n (by omega), up_n (by omega), up_n (by omega)]; exact h0, fun x hx => ?_⟩
      by_cases e : x = c
      · subst e; rw [up_s]; exact ⟨rfl, fun z => absurd z (by omega)⟩
      · rw [up_n e, up_n e, up_n e]
        obtain ⟨a1, a2⟩ := h x (by omega)
        refine ⟨a1, fun z => ?_⟩
        rw [up_n (by omega), up_n (by omega), up_n (by omega), up_n (by omega), up_n (by omega), up_n (by omega), up_n (by omega), up_n (by omega), up_n (by omega)]
        exact a2 z
    · rw [if_neg (by rw [le_n (by omega) (by omega)]; exact q), sg 97 M (by omega), Option.bind_some, sg 97 M (by omega), Option.bind_some, sg 97 M (by omega), Option.bind_some, sg 48 M (by omega), Option.bind_some]
      refine ih g' (c + 1) _ _ _ _ (by omega) (by omega) ⟨by rw [up_n (by omega), up_n (by omega), up_n (by omega)]; exact h0, fun x hx => ?_⟩
      by_cases e : x = c
      · subst e
        rw [up_s, up_s, up_s]
        refine ⟨rfl, fun _ => ⟨rfl, ?_, ?_, rfl, ?_⟩⟩
        · rw [up_n (by omega), up_n (by omega), up_s]
        · rw [up_n (by omega), up_s]
        · rw [up_s]
      · rw [up_n e, up_n e, up_n e]
        obtain ⟨a1, a2⟩ := h x (by omega)
        refine ⟨a1, fun z => ?_⟩
        rw [up_n (by omega), up_n (by omega), up_n (by omega), up_n (by omega), up_n (by omega), up_n (by omega), up_n (by omega), up_n (by omega), up_n (by omega)]
        exact a2 z
/-- a letter's worth -/
def vl (b : Int32) (lo : Nat) : Nat := if b = 45 then 0 else (b.toInt - lo + 1).toNat
theorem vl_ok {b : Int32} {lo hi : Nat} (h : b = 45 ∨ ((lo : Int) ≤ b.toInt ∧ b.toInt ≤ hi)) (h1 : hi ≤ 200) (h2 : lo ≤ hi + 1) : nOF b (nI lo) = nI (vl b lo) ∧ sgn b (nI lo) = mN (vl b lo) ∧ vl b lo ≤ hi + 1 - lo ∧ (vl b lo = 0 ↔ b = 45) := by
  unfold nOF sgn vl
  by_cases e : b = 45
  · rw [if_pos e, if_pos e, if_pos e]
    exact ⟨rfl, rfl, by omega, fun _ => e, fun _ => rfl⟩
  · rw [if_neg e, if_neg e, if_neg e]
    rcases h with h | h
    · exact absurd h e
    obtain ⟨j, hj, rfl⟩ : ∃ j, j < 201 ∧ b = nI j := by
      rcases a_cases b 201 (by decide) with ⟨-, q⟩ | ⟨-, -, q⟩ | q
      · omega
      · omega
      · exact q
    rw [nI_toInt (by omega)] at h ⊢
    have ev : ((j : Int) - lo + 1).toNat = j - lo + 1 := by omega
    rw [ev, sub_n (by omega), A1r, mN_s (by omega)]
    exact ⟨rfl, by congr 1, by omega, fun z => by omega, fun z => absurd z e⟩
