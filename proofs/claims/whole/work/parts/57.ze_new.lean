/-! rows that no earlier row is like, for a set of clerks -/
def alB (D F T I C : Nat → Nat) (l n s i j : Nat) : Bool := allb (fun c => !(s.testBit c) || decide (pgl D F T I C l i n c = pgl D F T I C l j n c)) n
def nwB (D F T I C : Nat → Nat) (l n s i : Nat) : Bool := allb (fun j => !(alB D F T I C l n s j i)) i
def dcN (D F T I C : Nat → Nat) (l n s : Nat) : Nat → Nat := cnt (nwB D F T I C l n s)
def tAB (D F T I C : Nat → Nat) (l n s : Nat) : Bool := allb (nwB D F T I C l n s) (4 ^ l)
theorem alB_iff {D F T I C : Nat → Nat} {l n s i j : Nat} : alB D F T I C l n s i j = true ↔ ∀ c, c < n → s.testBit c = true → pgl D F T I C l i n c = pgl D F T I C l j n c := by
  unfold alB
  rw [allb_iff]
  constructor
  · intro h c hc t
    have := h c hc
    rw [t, Bool.not_true, Bool.false_or, decide_eq_true_iff] at this
    exact this
  · intro h c hc
    by_cases t : s.testBit c = true
    · rw [t, Bool.not_true, Bool.false_or, decide_eq_true_iff]
      exact h c hc t
    · rw [Bool.not_eq_true] at t
      rw [t, Bool.not_false, Bool.true_or]
theorem nwB_iff {D F T I C : Nat → Nat} {l n s i : Nat} : nwB D F T I C l n s i = true ↔ ¬ ∃ j, j < i ∧ alB D F T I C l n s j i = true := by
  unfold nwB
  rw [allb_iff]
  constructor
  · rintro h ⟨j, hj, e⟩
    have := h j hj
    rw [e] at this
    exact Bool.noConfusion this
  · intro h j hj
    cases e : alB D F T I C l n s j i with
    | false => rfl
    | true => exact absurd ⟨j, hj, e⟩ h
theorem dcN_le {D F T I C : Nat → Nat} {l n s k : Nat} : dcN D F T I C l n s k ≤ k := cnt_le _ k
theorem cnt_full {p : Nat → Bool} : ∀ {k}, cnt p k = k → ∀ x, x < k → p x = true := by
  intro k
  induction k with
  | zero => intro _ x hx; omega
  | succ k ih =>
    intro h x hx
    have hle := cnt_le p k
    by_cases b : p k = true
    · rw [cnt_y b] at h
      by_cases e : x = k
      · rw [e]; exact b
      · exact ih (by omega) x (by omega)
    · rw [cnt_f b] at h; omega
theorem tAB_iff {D F T I C : Nat → Nat} {l n s : Nat} : tAB D F T I C l n s = true ↔ dcN D F T I C l n s (4 ^ l) = 4 ^ l := by
  unfold tAB dcN
  rw [allb_iff]
  exact ⟨fun h => cnt_all h, fun h => cnt_full h⟩
theorem cnt_cong {p q : Nat → Bool} : ∀ {k}, (∀ x, x < k → p x = q x) → cnt p k = cnt q k := by
  intro k
  induction k with
  | zero => intro _; rfl
  | succ k ih =>
    intro h
    have hk := h k (by omega)
    have e := ih (fun x hx => h x (by omega))
    by_cases b : p k = true
    · rw [cnt_y b, cnt_y (by rw [← hk]; exact b), e]
    · rw [cnt_f b, cnt_f (by rw [← hk]; exact b), e]
theorem nwB_cong {D F F' T I C : Nat → Nat} {l n s s' i : Nat} (h : ∀ c, c < n → F c = F' c) (hs : ∀ c, c < n → s.testBit c = s'.testBit c) : nwB D F T I C l n s i = nwB D F' T I C l n s' i := by
  have e : ∀ j, alB D F T I C l n s j i = alB D F' T I C l n s' j i := by
    intro j
    rw [Bool.eq_iff_iff, alB_iff, alB_iff]
    constructor
    · intro q c hc t
      rw [← pgl_cong h n (Nat.le_refl n) c, ← pgl_cong h n (Nat.le_refl n) c]
      exact q c hc (by rw [hs c hc]; exact t)
    · intro q c hc t
      rw [pgl_cong h n (Nat.le_refl n) c, pgl_cong h n (Nat.le_refl n) c]
      exact q c hc (by rw [← hs c hc]; exact t)
  unfold nwB
  congr 1
  funext j
  rw [e j]
theorem dcN_cong {D F F' T I C : Nat → Nat} {l n s s' k : Nat} (h : ∀ c, c < n → F c = F' c) (hs : ∀ c, c < n → s.testBit c = s'.testBit c) : dcN D F T I C l n s k = dcN D F' T I C l n s' k := cnt_cong (fun _ _ => nwB_cong h hs)
theorem bit15 {n : Nat} (hn : n ≤ 4) : ∀ c, c < n → (15:Nat).testBit c = (2 ^ n - 1).testBit c := by
  intro c hc
  rw [Nat.testBit_two_pow_sub_one, show (15:Nat) = 2 ^ 4 - 1 from rfl, Nat.testBit_two_pow_sub_one, decide_eq_true (show c < n from hc), decide_eq_true (show c < 4 by omega)]
/-! the class: rows laid into drawers -/
def kXf (D F T I C : Nat → Nat) (l n i c : Nat) : Nat := 4 ^ (pgl D F T I C l i n c).1 + (pgl D F T I C l i n c).2
def kX (D F T I C : Nat → Nat) (l n s i : Nat) : Int64 := lN (pkS s (kXf D F T I C l n i) n)
theorem kXf_lt {D F T I C : Nat → Nat} {l n i : Nat} (hB : HabB n D F T I C) (hl : l ≤ 5) (hi : i < 4 ^ l) : ∀ c, c < n → kXf D F T I C l n i c < 8192 := by
  intro c hc
  obtain ⟨p1, p2⟩ := pgl_ok hB hi n (Nat.le_refl n) c hc
  have := p4_le5 (show (pgl D F T I C l i n c).1 ≤ 5 by omega)
  unfold kXf
  omega
theorem lN_inj {a b : Nat} (ha : a < 2 ^ 64) (hb : b < 2 ^ 64) : lN a = lN b ↔ a = b := by
  constructor
  · intro h
    have h2 : (lN a).toBitVec.toNat = (lN b).toBitVec.toNat := by rw [h]
    rw [wb_tn ha, wb_tn hb] at h2
    exact h2
  · intro h; rw [h]
theorem pkS_b {D F T I C : Nat → Nat} {l n s i : Nat} (hB : HabB n D F T I C) (hl : l ≤ 5) (hi : i < 4 ^ l) : 0 < pkS s (kXf D F T I C l n i) n ∧ pkS s (kXf D F T I C l n i) n < 2 ^ 54 := by
  obtain ⟨h1, h2⟩ := pkS_lt (s := s) (kXf_lt hB hl hi) n (Nat.le_refl n)
  have l3 : 8192 ^ n ≤ 8192 ^ 4 := Nat.pow_le_pow_right (n := 8192) (by decide) hB.1
  have l4 : (8192:Nat) ^ 4 = 4503599627370496 := rfl
  have l5 : (2:Nat) ^ 54 = 18014398509481984 := rfl
  exact ⟨h1, by omega⟩
theorem kX_ne {D F T I C : Nat → Nat} {l n s i : Nat} (hB : HabB n D F T I C) (hl : l ≤ 5) (hi : i < 4 ^ l) : kX D F T I C l n s i ≠ 0 := by
  obtain ⟨h1, h2⟩ := pkS_b (s := s) hB hl hi
  intro h
  have := (lN_inj (a := pkS s (kXf D F T I C l n i) n) (b := 0) (by omega) (by decide)).mp h
  omega
theorem kX_iff {D F T I C : Nat → Nat} {l n s i j : Nat} (hB : HabB n D F T I C) (hl : l ≤ 5) (hi : i < 4 ^ l) (hj : j < 4 ^ l) : kX D F T I C l n s i = kX D F T I C l n s j ↔ alB D F T I C l n s i j = true := by
  obtain ⟨-, h2⟩ := pkS_b (s := s) hB hl hi
  obtain ⟨-, h4⟩ := pkS_b (s := s) hB hl hj
  unfold kX
  rw [lN_inj (by omega) (by omega), pkS_inj (kXf_lt hB hl hi) (kXf_lt hB hl hj) n (Nat.le_refl n), alB_iff]
  constructor
  · intro h c hc t
    obtain ⟨p1, p2⟩ := pgl_ok hB hi n (Nat.le_refl n) c hc
    obtain ⟨q1, q2⟩ := pgl_ok hB hj n (Nat.le_refl n) c hc
    obtain ⟨e1, e2⟩ := rC_inj p2 q2 (h c hc t)
    exact Prod.ext e1 e2
  · intro h c hc t
    unfold kXf
    rw [h c hc t]
/-- the drawers when k rows were laid -/
def DrX (D F T I C : Nat → Nat) (l n s k : Nat) (L : Nat → Int64) : Prop := Tab 2048 hX (bX L) (fun q => ∃ i, i < k ∧ kX D F T I C l n s i = q) ∧ cnt (fun x => (bX L x).isSome) 2048 ≤ k
theorem drX_0 {N : Nat} {D F T I C : Nat → Nat} {l n s : Nat} (L : Nat → Int64) (hN : 200000 ≤ N) : ∃ L', f_X3_clear N L = some L' ∧ DrX D F T I C l n s 0 L' := by
  obtain ⟨L1, f1, f2⟩ := fillL (N := N) (n := 2048) (0:Int64) L hN (by decide)
  have hb : ∀ x, x < 2048 → bX L1 x = none := fun x hx => by unfold bX; rw [if_pos (f2 x hx)]
  refine ⟨L1, by unfold f_X3_clear; rw [f1, Option.bind_some], ⟨fun x q hx h => ?_, fun q hq => ?_⟩, ?_⟩
  · rw [hb x hx] at h; cases h
  · obtain ⟨i, hi, -⟩ := hq; omega
  · rw [cnt_zero (fun x hx => by rw [hb x hx]; exact Bool.noConfusion)]
    exact Nat.le_refl 0
theorem drX_s {N : Nat} {D F T I C : Nat → Nat} {l n s k : Nat} {L : Nat → Int64} (hN : 200000 ≤ N) (hB : HabB n D F T I C) (hl : l ≤ 5) (hk : k < 4 ^ l) (h : DrX D F T I C l n s k L) : ∃ L', f_X3_putNew N (kX D F T I C l n s k) L = some ((if nwB D F T I C l n s k = true then (1:Int32) else 0), L') ∧ DrX D F T I C l n s (k + 1) L' := by
  have hp := p4_le5 hl
  obtain ⟨b, L', g1, g2, g3, g4⟩ := pn (N := N) (r := k) (k := kX D F T I C l n s k) hN (kX_ne hB hl hk) h.1 h.2 (by omega)
  have eb : b = nwB D F T I C l n s k := by
    rw [Bool.eq_iff_iff, g2, nwB_iff]
    constructor
    · rintro q ⟨j, hj, e⟩
      exact q ⟨j, hj, (kX_iff hB hl (by omega) hk).mpr e⟩
    · rintro q ⟨j, hj, e⟩
      exact q ⟨j, hj, (kX_iff hB hl (by omega) hk).mp e⟩
  subst eb
  refine ⟨L', g1, ?_, g4⟩
  have es : (fun q => (∃ i, i < k ∧ kX D F T I C l n s i = q) ∨ q = kX D F T I C l n s k) = (fun q => ∃ i, i < k + 1 ∧ kX D F T I C l n s i = q) := by
    funext q
    apply propext
    constructor
    · rintro (⟨i, hi, e⟩ | e)
      · exact ⟨i, by omega, e⟩
      · exact ⟨k, by omega, e.symm⟩
    · rintro ⟨i, hi, e⟩
      by_cases w : i = k
      · subst w; exact Or.inr e.symm
      · exact Or.inl ⟨i, by omega, e⟩
  rw [es] at g3
  exact g3
