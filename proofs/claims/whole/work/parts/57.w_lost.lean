/-! the trial told from the others by those who are left -/
theorem or32 {a b : Nat} (ha : a < 2 ^ 32) (hb : b < 2 ^ 32) : nI a ||| nI b = nI (a ||| b) := by
  apply Int32.toBitVec_inj.mp
  rw [Int32.toBitVec_or]
  show BitVec.ofNat 32 a ||| BitVec.ofNat 32 b = BitVec.ofNat 32 (a ||| b)
  apply BitVec.eq_of_toNat_eq
  rw [BitVec.toNat_or, BitVec.toNat_ofNat, BitVec.toNat_ofNat, BitVec.toNat_ofNat, Nat.mod_eq_of_lt ha, Nat.mod_eq_of_lt hb, Nat.mod_eq_of_lt (Nat.or_lt_two_pow ha hb)]
theorem sh1 : ∀ s, s < 16 → (1:Int32) <<< (nI s &&& 31) = nI (2 ^ s) := by decide +kernel
theorem shrS {q s : Nat} (hs : s < 16) (h : q < 2147483648) : nI q >>> (nI s &&& 31) = nI (q / 2 ^ s) := by
  rcases (show s = 0 ∨ s = 1 ∨ s = 2 ∨ s = 3 ∨ s = 4 ∨ s = 5 ∨ s = 6 ∨ s = 7 ∨ s = 8 ∨ s = 9 ∨ s = 10 ∨ s = 11 ∨ s = 12 ∨ s = 13 ∨ s = 14 ∨ s = 15 by omega) with rfl | rfl | rfl | rfl | rfl | rfl | rfl | rfl | rfl | rfl | rfl | rfl | rfl | rfl | rfl | rfl
  · exact pk_shrN h _ 0 (by decide)
  · exact pk_shrN h _ 1 (by decide)
  · exact pk_shrN h _ 2 (by decide)
  · exact pk_shrN h _ 3 (by decide)
  · exact pk_shrN h _ 4 (by decide)
  · exact pk_shrN h _ 5 (by decide)
  · exact pk_shrN h _ 6 (by decide)
  · exact pk_shrN h _ 7 (by decide)
  · exact pk_shrN h _ 8 (by decide)
  · exact pk_shrN h _ 9 (by decide)
  · exact pk_shrN h _ 10 (by decide)
  · exact pk_shrN h _ 11 (by decide)
  · exact pk_shrN h _ 12 (by decide)
  · exact pk_shrN h _ 13 (by decide)
  · exact pk_shrN h _ 14 (by decide)
  · exact pk_shrN h _ 15 (by decide)
theorem and1 {q : Nat} (h : q < 2147483648) : nI q &&& (1:Int32) = nI (q % 2) := pk_andN (by omega) 1 (by decide)
theorem bitS {M s : Nat} (hs : s < 16) (h : M < 65536) : ((nI M >>> (nI s &&& 31)) &&& (1:Int32) = 0) = (M.testBit s = false) := by
  have h1 : M / 2 ^ s ≤ M := Nat.div_le_self _ _
  rw [shrS hs (by omega), and1 (by omega), L0, eq_n (by omega) (by omega), Nat.testBit_eq_decide_div_mod_eq]
  by_cases q : M / 2 ^ s % 2 = 1
  · rw [decide_eq_true q]
    exact propext ⟨fun z => by omega, fun z => Bool.noConfusion z⟩
  · rw [decide_eq_false q]
    exact propext ⟨fun _ => rfl, fun _ => by omega⟩
def unl (D F T I C : Nat → Nat) (m v n k : Nat) : Nat := bb (fun c => !decide (pgl D F T I C m k n c = pgl D F T I C m v n c)) n
theorem unl_lt {D F T I C : Nat → Nat} {m v n k : Nat} (hn : n ≤ 4) : unl D F T I C m v n k < 2 ^ n ∧ unl D F T I C m v n k < 16 := by
  have h := bb_lt (fun c => !decide (pgl D F T I C m k n c = pgl D F T I C m v n c)) n
  have h16 : 2 ^ n ≤ 16 := Nat.pow_le_pow_right (n := 2) (by decide) hn
  exact ⟨h, Nat.lt_of_lt_of_le h h16⟩
theorem suU_loop {N n m v k : Nat} {D F T I C : Nat → Nat} {P Q : Nat → Int32} (hB : HabB n D F T I C) (hm : m ≤ 6) (hv : v < 4 ^ m) (hk : k < 4 ^ m) (hP : PgX D F T I C m k n P) (hQ : PgX D F T I C m v n Q) (kk : Int32 → Int32 → Option Int32) :
    ∀ (j g c : Nat), c + j = n → j < g → f_X5_setUnlikeTrial_4 N (nI n) P Q kk g (nI (bb (fun c => !decide (pgl D F T I C m k n c = pgl D F T I C m v n c)) c)) (nI c) = kk (nI (unl D F T I C m v n k)) (nI n) := by
  have hn := hB.1
  intro j
  induction j with
  | zero =>
    intro g c hc hg
    obtain ⟨g', rfl⟩ : ∃ g', g = g' + 1 := ⟨g - 1, by omega⟩
    have : c = n := by omega
    subst this
    rw [f_X5_setUnlikeTrial_4, if_pos (by rw [le_n (by omega) (by omega)]; omega)]
    rfl
  | succ j ih =>
    intro g c hc hg
    obtain ⟨g', rfl⟩ : ∃ g', g = g' + 1 := ⟨g - 1, by omega⟩
    have step := ih g' (c + 1) (by omega) (by omega)
    obtain ⟨p1, p2⟩ := pgl_ok hB hk n (by omega) c (by omega)
    obtain ⟨q1, q2⟩ := pgl_ok hB hv n (by omega) c (by omega)
    rw [f_X5_setUnlikeTrial_4, if_neg (by rw [le_n (by omega) (by omega)]; omega), gI_n (by omega) (by omega), gI_n (by omega) (by omega), cl_n (by omega), A1r, hP c (by omega), hQ c (by omega)]
    by_cases e : pgl D F T I C m k n c = pgl D F T I C m v n c
    · rw [if_pos (by rw [e])]
      rw [bb_f (by show ¬ (!decide (pgl D F T I C m k n c = pgl D F T I C m v n c)) = true; rw [decide_eq_true e]; exact Bool.noConfusion)] at step
      exact step
    · rw [if_neg (by rw [rC_eq (by omega) (by omega) p2 q2]; exact e), or2 (by omega) (bb_lt _ c)]
      rw [bb_y (by show (!decide (pgl D F T I C m k n c = pgl D F T I C m v n c)) = true; rw [decide_eq_false e]; rfl)] at step
      exact step
theorem suU {N n m v k : Nat} {D F T I C : Nat → Nat} {P Q : Nat → Int32} (hN : 200000 ≤ N) (hB : HabB n D F T I C) (hm : m ≤ 6) (hv : v < 4 ^ m) (hk : k < 4 ^ m) (hP : PgX D F T I C m k n P) (hQ : PgX D F T I C m v n Q) : f_X5_setUnlikeTrial N (nI n) P Q = some (nI (unl D F T I C m v n k)) := by
  have hn := hB.1
  unfold f_X5_setUnlikeTrial
  exact suU_loop hB hm hv hk hP hQ (fun z1_4 z2_4 => some z1_4) n N 0 (by omega) (by omega)
/-- M holds just the sets of the rows before k -/
def MaskR (D F T I C : Nat → Nat) (m v n k M : Nat) : Prop := M < 65536 ∧ ∀ s, s < 16 → (M.testBit s = true ↔ ∃ i, i < k ∧ i ≠ v ∧ unl D F T I C m v n i = s)
theorem msk_loop {N n m v : Nat} {D F T I C : Nat → Nat} {bd bf bt bi bc X1 pt : Nat → Int32} (hN : 200000 ≤ N) (hB : HabB n D F T I C) (hX : HabX n D F T I C bd bf bt bi bc) (hm : m ≤ 5) (hv : v < 4 ^ m) (hQ : PgX D F T I C m v n (va_cpy X1 pt 0 0 4)) (kk : Int32 → Int32 → (Nat → Int32) → Option (Int32 × (Nat → Int32) × (Nat → Int32))) :
    ∀ (j g k M : Nat) (P : Nat → Int32), k + j = 4 ^ m → j < g → MaskR D F T I C m v n k M → ∃ M' P', f_X5_setsUnlikeTrial_49 N (nI (4 ^ m + v)) (nI n) bd bf bt bi bc pt X1 (nI (2 * 4 ^ m)) kk g (nI M) (nI (4 ^ m + k)) P = kk (nI M') (nI (2 * 4 ^ m)) P' ∧ MaskR D F T I C m v n (4 ^ m) M' := by
  have hp := p4_le5 hm
  have hn := hB.1
  intro j
  induction j with
  | zero =>
    intro g k M P hk hg hM
    obtain ⟨g', rfl⟩ : ∃ g', g = g' + 1 := ⟨g - 1, by omega⟩
    have : k = 4 ^ m := by omega
    subst this
    exact ⟨M, P, by rw [f_X5_setsUnlikeTrial_49, if_pos (by rw [le_n (by omega) (by omega)]; omega), show 4 ^ m + 4 ^ m = 2 * 4 ^ m by omega], hM⟩
  | succ j ih =>
    intro g k M P hk hg hM
    obtain ⟨g', rfl⟩ : ∃ g', g = g' + 1 := ⟨g - 1, by omega⟩
    rw [f_X5_setsUnlikeTrial_49, if_neg (by rw [le_n (by omega) (by omega)]; omega), A1r, Nat.add_assoc]
    by_cases e : k = v
    · rw [if_pos (by rw [e])]
      refine ih g' (k + 1) M P (by omega) (by omega) ⟨hM.1, fun s hs => ?_⟩
      rw [hM.2 s hs]
      constructor
      · rintro ⟨i, h1, h2, h3⟩; exact ⟨i, by omega, h2, h3⟩
      · rintro ⟨i, h1, h2, h3⟩; exact ⟨i, by omega, h2, h3⟩
    · rw [if_neg (by rw [eq_n (by omega) (by omega)]; omega)]
      obtain ⟨P1, g1, hP1⟩ := tD P hN hB hX (show m ≤ 6 by omega) (show k < 4 ^ m by omega)
      obtain ⟨u1, u2⟩ := unl_lt (D := D) (F := F) (T := T) (I := I) (C := C) (m := m) (v := v) (k := k) hn
      have h2s : 2 ^ unl D F T I C m v n k < 2 ^ 16 := Nat.pow_lt_pow_right (by decide) u2
      rw [g1, Option.bind_some, suU hN hB (by omega) hv (by omega) hP1 hQ, Option.bind_some, sh1 _ u2, or32 (by have := hM.1; omega) (by omega)]
      refine ih g' (k + 1) _ P1 (by omega) (by omega) ⟨Nat.or_lt_two_pow (n := 16) hM.1 h2s, fun s hs => ?_⟩
      rw [Nat.testBit_or, Nat.testBit_two_pow, Bool.or_eq_true, hM.2 s hs, decide_eq_true_iff]
      constructor
      · rintro (⟨i, h1, h2, h3⟩ | h)
        · exact ⟨i, by omega, h2, h3⟩
        · exact ⟨k, by omega, e, h⟩
      · rintro ⟨i, h1, h2, h3⟩
        by_cases w : i = k
        · subst w; exact Or.inr h3
        · exact Or.inl ⟨i, by omega, h2, h3⟩
