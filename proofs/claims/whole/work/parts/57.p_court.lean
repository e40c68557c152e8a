/-! the text of a court -/
def okL (k : Nat) (b p : Int32) : Bool :=
  if k = 0 then decide (b = 67) else if 24 < k then false
  else if (k - 1) % 6 = 0 then decide (b = 75)
  else if (k - 1) % 6 = 1 then decide (b = 45 ∨ (97 ≤ b.toInt ∧ b.toInt ≤ 100))
  else if (k - 1) % 6 = 2 then decide (b = 45 ∨ (97 ≤ b.toInt ∧ b.toInt ≤ 100))
  else if (k - 1) % 6 = 3 then (if p = 45 then decide (b = 45) else decide ((97 ≤ b.toInt ∧ b.toInt ≤ 100) ∧ ¬ b = p))
  else if (k - 1) % 6 = 4 then decide (48 ≤ b.toInt ∧ b.toInt ≤ 57)
  else decide (b = 45 ∨ (48 ≤ b.toInt ∧ b.toInt ≤ 47 + ((k - 1) / 6 : Nat)))
theorem wL1 (N : Nat) (b : Int32) : f_X2_isWordLetter N b = some (if 97 ≤ b.toInt ∧ b.toInt ≤ 100 then 1 else 0) := by
  unfold f_X2_isWordLetter
  have t1 : (b < (97:Int32)) ↔ b.toInt < 97 := by rw [Int32.lt_iff_toInt_lt, show ((97:Int32)).toInt = 97 from by decide]
  have t2 : ((101:Int32) ≤ b) ↔ 101 ≤ b.toInt := by rw [Int32.le_iff_toInt_le, show ((101:Int32)).toInt = 101 from by decide]
  simp only [t1, t2]
  by_cases h1 : b.toInt < 97
  · rw [if_pos h1, if_neg (by omega)]
  · rw [if_neg h1]
    by_cases h2 : 101 ≤ b.toInt
    · rw [if_pos h2, if_neg (by omega)]
    · rw [if_neg h2, if_pos (by omega)]
theorem wL2 (N : Nat) (b : Int32) : f_X6_isWord N b = some (if 97 ≤ b.toInt ∧ b.toInt ≤ 100 then 1 else 0) := by
  unfold f_X6_isWord
  rw [in_b N b 97 100 97 100 (by decide) (by decide), Option.bind_some]
  split
  · rw [gZ_1]
  · rw [gZ_0]
theorem some_ite {c d : Prop} [Decidable c] [Decidable d] (h : c ↔ d) : (if c then (some 1 : Option Int32) else some 0) = some (if d then 1 else 0) := by
  by_cases q : c
  · rw [if_pos q, if_pos (h.mp q)]
  · rw [if_neg q, if_neg (fun z => q (h.mpr z))]
theorem some_iten {c d : Prop} [Decidable c] [Decidable d] (h : c ↔ ¬ d) : (if c then (some 0 : Option Int32) else some 1) = some (if d then 1 else 0) := by
  by_cases q : c
  · rw [if_pos q, if_neg (h.mp q)]
  · rw [if_neg q, if_pos (Classical.byContradiction (fun z => q (h.mpr z)))]
theorem dec_t {p : Prop} [Decidable p] : (decide p = true) ↔ p := ⟨of_decide_eq_true, decide_eq_true⟩
theorem cS {N k : Nat} (L : Nat → Int32) (hk : k < 32) : f_X2_canStand N (nI k) L = some (if okL k (L k) (L (k - 1)) = true then 1 else 0) := by
  unfold f_X2_canStand okL
  rw [gI_n (by omega) (by omega), cl_n (by omega)]
  by_cases k0 : k = 0
  · subst k0
    rw [if_pos (show nI 0 = (0:Int32) from rfl), if_pos rfl]
    exact some_ite dec_t.symm
  ·
    have e1 : nI k - (1:Int32) = nI (k - 1) := sub_n (b := 1) (by omega)
    have e2 : nI (k - 1) - nI (k - 1) / (6:Int32) * (6:Int32) = nI ((k - 1) % 6) := rem_n (d := 6) (by omega) (by omega) (by omega)
    have e3 : nI (k - 1) / (6:Int32) = nI ((k - 1) / 6) := div_n (d := 6) (by omega) (by omega) (by omega)
    have q0 : (nI ((k - 1) % 6) = (0:Int32)) = ((k - 1) % 6 = 0) := eq_n (b := 0) (by omega) (by omega)
    have q1 : (nI ((k - 1) % 6) = (1:Int32)) = ((k - 1) % 6 = 1) := eq_n (b := 1) (by omega) (by omega)
    have q2 : (nI ((k - 1) % 6) = (2:Int32)) = ((k - 1) % 6 = 2) := eq_n (b := 2) (by omega) (by omega)
    have q3 : (nI ((k - 1) % 6) = (3:Int32)) = ((k - 1) % 6 = 3) := eq_n (b := 3) (by omega) (by omega)
    have q4 : (nI ((k - 1) % 6) = (4:Int32)) = ((k - 1) % 6 = 4) := eq_n (b := 4) (by omega) (by omega)
    have q5 : (nI ((k - 1) % 6) = (5:Int32)) = ((k - 1) % 6 = 5) := eq_n (b := 5) (by omega) (by omega)
    rw [if_neg (nI_ne0 (by omega) (by omega)), if_neg k0, e1, e2, e3, cl_n (by omega), gI_n (by omega) (by omega)]
    simp only [q1, q2, q3, q4, q5]
    by_cases k24 : 24 < k
    · rw [if_neg (by rw [L4, lt_n (by omega) (by omega)]; omega), if_pos k24, if_neg (by decide)]
    · have hr : (k - 1) % 6 < 6 := Nat.mod_lt _ (by decide)
      rw [if_pos (by rw [L4, lt_n (by omega) (by omega)]; omega), if_neg k24, wL1, Option.bind_some]
      by_cases r0 : (k - 1) % 6 = 0
      · rw [if_neg (show ¬ (k - 1) % 6 = 1 by omega), if_neg (show ¬ (k - 1) % 6 = 2 by omega), if_neg (show ¬ (k - 1) % 6 = 3 by omega), if_neg (show ¬ (k - 1) % 6 = 4 by omega), if_neg (show ¬ (k - 1) % 6 = 5 by omega), if_pos r0]
        exact some_ite dec_t.symm
      rw [if_neg r0]
      by_cases r1 : (k - 1) % 6 = 1
      · rw [if_pos r1, if_pos r1]
        by_cases b45 : L k = 45
        · rw [if_pos b45, if_pos (dec_t.mpr (Or.inl b45))]
        · rw [if_neg b45]
          simp only [ite10]
          exact some_iten ⟨fun q z => (dec_t.mp z).elim b45 q, fun q z => q (dec_t.mpr (Or.inr z))⟩
      rw [if_neg r1, if_neg r1]
      by_cases r2 : (k - 1) % 6 = 2
      · rw [if_pos r2, if_pos r2]
        by_cases b45 : L k = 45
        · rw [if_pos b45, if_pos (dec_t.mpr (Or.inl b45))]
        · rw [if_neg b45]
          simp only [ite10]
          exact some_iten ⟨fun q z => (dec_t.mp z).elim b45 q, fun q z => q (dec_t.mpr (Or.inr z))⟩
      rw [if_neg r2, if_neg r2]
      by_cases r3 : (k - 1) % 6 = 3
      · rw [if_pos r3, if_pos r3]
        unfold f_X2_canBeTo
        by_cases p45 : L (k - 1) = 45
        · rw [if_pos p45, if_pos p45]
          by_cases b45 : L k = 45
          · rw [if_pos b45, if_pos (dec_t.mpr b45), Option.bind_some, gZ_1]
          · rw [if_neg b45, if_neg (fun z => b45 (dec_t.mp z)), Option.bind_some, gZ_0]
        · rw [if_neg p45, if_neg p45, wL1, Option.bind_some]
          by_cases w : 97 ≤ (L k).toInt ∧ (L k).toInt ≤ 100
          · rw [if_pos w, if_neg n10]
            by_cases e : L k = L (k - 1)
            · rw [if_pos e, if_neg (fun z => (dec_t.mp z).2 e), Option.bind_some, gZ_0]
            · rw [if_neg e, if_pos (dec_t.mpr ⟨w, e⟩), Option.bind_some, gZ_1]
          · rw [if_neg w, if_pos z00, if_neg (fun z => w (dec_t.mp z).1), Option.bind_some, gZ_0]
      rw [if_neg r3, if_neg r3]
      have t1 : (L k < (48:Int32)) ↔ (L k).toInt < 48 := by rw [Int32.lt_iff_toInt_lt, show ((48:Int32)).toInt = 48 from by decide]
      have t2 : ((57:Int32) < L k) ↔ 57 < (L k).toInt := by rw [Int32.lt_iff_toInt_lt, show ((57:Int32)).toInt = 57 from by decide]
      by_cases r4 : (k - 1) % 6 = 4
      · rw [if_pos r4, if_pos r4]
        by_cases h1 : (L k).toInt < 48
        · rw [if_pos (t1.mpr h1), if_neg (fun z => by have := dec_t.mp z; omega)]
        · rw [if_neg (fun z => h1 (t1.mp z))]
          by_cases h2 : 57 < (L k).toInt
          · rw [if_pos (t2.mpr h2), if_neg (fun z => by have := dec_t.mp z; omega)]
          · rw [if_neg (fun z => h2 (t2.mp z)), if_pos (dec_t.mpr (by omega))]
      rw [if_neg r4, if_neg r4, if_pos (show (k - 1) % 6 = 5 by omega)]
      by_cases b45 : L k = 45
      · rw [if_pos b45, if_pos (dec_t.mpr (Or.inl b45))]
      · have t3 : ((48:Int32) + nI ((k - 1) / 6) ≤ L k) ↔ 48 + (((k - 1) / 6 : Nat) : Int) ≤ (L k).toInt := by
          rw [L48, add_n, Int32.le_iff_toInt_le, nI_toInt (by omega)]; omega
        rw [if_neg b45]
        by_cases h1 : (L k).toInt < 48
        · rw [if_pos (t1.mpr h1), if_neg (fun z => (dec_t.mp z).elim b45 (fun y => by omega))]
        · rw [if_neg (fun z => h1 (t1.mp z))]
          by_cases h2 : 48 + (((k - 1) / 6 : Nat) : Int) ≤ (L k).toInt
          · rw [if_pos (t3.mpr h2), if_neg (fun z => (dec_t.mp z).elim b45 (fun y => by omega))]
          · rw [if_neg (fun z => h2 (t3.mp z)), if_pos (dec_t.mpr (Or.inr (by omega)))]
theorem mB {N k : Nat} (L : Nat → Int32) (hk : k < 32) : f_X6_mayBe N (nI k) L = some (if okL k (L k) (L (k - 1)) = true then 1 else 0) := by
  unfold f_X6_mayBe okL
  rw [gI_n (by omega) (by omega), cl_n (by omega)]
  by_cases k0 : k = 0
  · subst k0
    rw [if_pos (show nI 0 = (0:Int32) from rfl), if_pos rfl]
    exact some_ite dec_t.symm
  ·
    have e1 : nI k - (1:Int32) = nI (k - 1) := sub_n (b := 1) (by omega)
    have e2 : nI (k - 1) - nI (k - 1) / (6:Int32) * (6:Int32) = nI ((k - 1) % 6) := rem_n (d := 6) (by omega) (by omega) (by omega)
    have e3 : nI (k - 1) / (6:Int32) = nI ((k - 1) / 6) := div_n (d := 6) (by omega) (by omega) (by omega)
    have q0 : (nI ((k - 1) % 6) = (0:Int32)) = ((k - 1) % 6 = 0) := eq_n (b := 0) (by omega) (by omega)
    have q1 : (nI ((k - 1) % 6) = (1:Int32)) = ((k - 1) % 6 = 1) := eq_n (b := 1) (by omega) (by omega)
    have q2 : (nI ((k - 1) % 6) = (2:Int32)) = ((k - 1) % 6 = 2) := eq_n (b := 2) (by omega) (by omega)
    have q3 : (nI ((k - 1) % 6) = (3:Int32)) = ((k - 1) % 6 = 3) := eq_n (b := 3) (by omega) (by omega)
    have q4 : (nI ((k - 1) % 6) = (4:Int32)) = ((k - 1) % 6 = 4) := eq_n (b := 4) (by omega) (by omega)
    have q5 : (nI ((k - 1) % 6) = (5:Int32)) = ((k - 1) % 6 = 5) := eq_n (b := 5) (by omega) (by omega)
    rw [if_neg (nI_ne0 (by omega) (by omega)), if_neg k0, e1, e2, e3, cl_n (by omega), gI_n (by omega) (by omega), gI_n (by omega) (by omega)]
    simp only [q0, q1, q2, q3, q4, q5]
    by_cases k24 : 24 < k
    · rw [if_neg (by rw [L24, le_n (by omega) (by omega)]; omega), if_pos k24, if_neg (by decide)]
    · have hr : (k - 1) % 6 < 6 := Nat.mod_lt _ (by decide)
      rw [if_pos (by rw [L24, le_n (by omega) (by omega)]; omega), if_neg k24, wL2, in_b N (L k) 48 57 48 57 (by decide) (by decide), in_b N (L k) 48 _ 48 (47 + (((k - 1) / 6 : Nat) : Int)) (by decide) (by rw [Int32.toInt_toInt64, L47, add_n, nI_toInt (by omega)]; omega)]
      simp only [Option.bind_some]
      by_cases r0 : (k - 1) % 6 = 0
      · rw [if_pos r0, if_pos r0]
        exact some_ite dec_t.symm
      rw [if_neg r0, if_neg r0]
      by_cases r1 : (k - 1) % 6 = 1
      · rw [if_pos r1, if_pos r1]
        by_cases b45 : L k = 45
        · rw [if_pos b45, if_pos (dec_t.mpr (Or.inl b45))]
        · rw [if_neg b45]
          simp only [ite10]
          exact some_iten ⟨fun q z => (dec_t.mp z).elim b45 q, fun q z => q (dec_t.mpr (Or.inr z))⟩
      rw [if_neg r1, if_neg r1]
      by_cases r2 : (k - 1) % 6 = 2
      · rw [if_pos r2, if_pos r2]
        by_cases b45 : L k = 45
        · rw [if_pos b45, if_pos (dec_t.mpr (Or.inl b45))]
        · rw [if_neg b45]
          simp only [ite10]
          exact some_iten ⟨fun q z => (dec_t.mp z).elim b45 q, fun q z => q (dec_t.mpr (Or.inr z))⟩
      rw [if_neg r2, if_neg r2]
      by_cases r3 : (k - 1) % 6 = 3
      · rw [if_pos r3, if_pos r3]
        by_cases p45 : L (k - 1) = 45
        · rw [if_pos p45, if_pos p45]
          exact some_ite dec_t.symm
        · rw [if_neg p45, if_neg p45]
          by_cases w : 97 ≤ (L k).toInt ∧ (L k).toInt ≤ 100
          · rw [if_pos w, if_neg n10]
            exact some_iten ⟨fun e z => (dec_t.mp z).2 e, fun z => Classical.byContradiction (fun e => z (dec_t.mpr ⟨w, e⟩))⟩
          · rw [if_neg w, if_pos z00, if_neg (fun z => w (dec_t.mp z).1)]
      rw [if_neg r3, if_neg r3]
      by_cases r4 : (k - 1) % 6 = 4
      · rw [if_pos r4, if_pos r4]
        by_cases w : 48 ≤ (L k).toInt ∧ (L k).toInt ≤ 57
        · rw [if_pos w, gZ_1, if_pos (dec_t.mpr w)]
        · rw [if_neg w, gZ_0, if_neg (fun z => w (dec_t.mp z))]
      rw [if_neg r4, if_neg r4]
      by_cases b45 : L k = 45
      · rw [if_pos b45, if_pos (dec_t.mpr (Or.inl b45))]
      · rw [if_neg b45]
        simp only [ite10]
        exact some_iten ⟨fun q z => (dec_t.mp z).elim b45 q, fun q z => q (dec_t.mpr (Or.inr z))⟩
theorem flt {N tn : Nat} {L M : Nat → Int32} {re : Int32} (htn : tn ≤ 32) (h : ∀ k, k < tn → L k = M k) (kk : Int32 → Option Int32) (hkk : kk (nI tn) = some re) : ∀ (j g k : Nat), k + j = tn → j < g → ∃ r, f_X2_firstFault_2 N (nI tn) L kk g (nI k) = some r ∧ f_X6_fault_2 N (nI tn) M kk g (nI k) = some r ∧ (r = -9 → (∀ i, k ≤ i → i < tn → okL i (M i) (M (i - 1)) = true) ∧ re = -9) := by
  intro j
  induction j with
  | zero =>
    intro g k hk hg
    obtain ⟨g', rfl⟩ : ∃ g', g = g' + 1 := ⟨g - 1, by omega⟩
    have : k = tn := by omega
    subst this
    have hle : nI k ≤ nI k := by rw [le_n (by omega) (by omega)]; omega
    rw [f_X2_firstFault_2, f_X6_fault_2, if_pos hle, if_pos hle]
    exact ⟨re, hkk, hkk, fun q => ⟨fun i h1 h2 => by omega, q⟩⟩
  | succ j ih =>
    intro g k hk hg
    obtain ⟨g', rfl⟩ : ∃ g', g = g' + 1 := ⟨g - 1, by omega⟩
    obtain ⟨r, h1, h2, h3⟩ := ih g' (k + 1) (by omega) (by omega)
    have ek : okL k (L k) (L (k - 1)) = okL k (M k) (M (k - 1)) := by rw [h k (by omega), h (k - 1) (by omega)]
    have hle : ¬ nI tn ≤ nI k := by rw [le_n (by omega) (by omega)]; omega
    rw [f_X2_firstFault_2, f_X6_fault_2, if_neg hle, if_neg hle, cS L (by omega), mB M (by omega), Option.bind_some, Option.bind_some, ek, A1r]
    by_cases q : okL k (M k) (M (k - 1)) = true
    · rw [if_pos q, if_neg n10, if_neg n10]
      refine ⟨r, h1, h2, fun z => ?_⟩
      obtain ⟨z1, z2⟩ := h3 z
      refine ⟨fun i i1 i2 => ?_, z2⟩
      by_cases e : i = k
      · subst e; exact q
      · exact z1 i (by omega) i2
    · rw [if_neg q, if_pos z00, if_pos z00]
      exact ⟨_, rfl, rfl, fun z => by rw [m9_n (by omega)] at z; exact z.elim⟩
theorem flt_end {tn : Nat} (htn : tn ≤ 32) : ∃ re, (if nI tn ≤ (0:Int32) then some (nI tn) else if ((nI tn - (1:Int32)) - (nI tn - (1:Int32)) / (6:Int32) * (6:Int32)) = (0:Int32) then some (-9:Int32) else some (nI tn)) = some re ∧ (re = -9 → 0 < tn ∧ (tn - 1) % 6 = 0) := by
  by_cases z : tn = 0
  · subst z
    exact ⟨nI 0, by rw [if_pos (show nI 0 ≤ (0:Int32) by decide)], fun q => absurd q (by decide)⟩
  · rw [if_neg (by rw [L0, le_n (by omega) (by omega)]; omega), L1, sub_n (by omega), L6, rem_n (by omega) (by omega) (by omega)]
    by_cases y : (tn - 1) % 6 = 0
    · rw [if_pos (show nI ((tn - 1) % 6) = (0:Int32) by rw [y]; rfl)]
      exact ⟨_, rfl, fun _ => ⟨by omega, y⟩⟩
    · rw [if_neg (nI_ne0 (by omega) (by omega))]
      exact ⟨_, rfl, fun q => by rw [m9_n (by omega)] at q; exact q.elim⟩
theorem flt2 {N tn : Nat} {L M : Nat → Int32} (hN : 200000 ≤ N) (htn : tn ≤ 32) (h : ∀ k, k < tn → L k = M k) : ∃ r, f_X2_firstFault N (nI tn) L = some r ∧ f_X6_fault N (nI tn) M = some r ∧ (r = -9 → (∀ i, i < tn → okL i (M i) (M (i - 1)) = true) ∧ 0 < tn ∧ (tn - 1) % 6 = 0) := by
  obtain ⟨re, e1, e2⟩ := flt_end htn
  obtain ⟨r, h1, h2, h3⟩ := flt (N := N) (L := L) (M := M) htn h (fun z1_2 => if nI tn ≤ (0:Int32) then some (nI tn) else if ((nI tn - (1:Int32)) - (nI tn - (1:Int32)) / (6:Int32) * (6:Int32)) = (0:Int32) then some (-9:Int32) else some (nI tn)) e1 tn N 0 (by omega) (by omega)
  refine ⟨r, h1, h2, fun q => ?_⟩
  obtain ⟨z1, z2⟩ := h3 q
  exact ⟨fun i hi => z1 i (Nat.zero_le i) hi, e2 z2⟩
