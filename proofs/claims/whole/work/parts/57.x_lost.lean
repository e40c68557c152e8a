def allb (p : Nat → Bool) : Nat → Bool
  | 0 => true
  | k + 1 => allb p k && p k
theorem allb_iff (p : Nat → Bool) : ∀ k, allb p k = true ↔ ∀ i, i < k → p i = true := by
  intro k
  induction k with
  | zero => exact ⟨fun _ i hi => by omega, fun _ => rfl⟩
  | succ k ih =>
    rw [allb, Bool.and_eq_true, ih]
    constructor
    · rintro ⟨h1, h2⟩ i hi
      by_cases e : i = k
      · rw [e]; exact h2
      · exact h1 i (by omega)
    · intro h; exact ⟨fun i hi => h i (by omega), h k (by omega)⟩
def tlp (D F T I C : Nat → Nat) (m v n lf i : Nat) : Bool := decide (i = v) || decide (unl D F T I C m v n i &&& lf ≠ 0)
def tB (D F T I C : Nat → Nat) (m v n lf : Nat) : Bool := allb (tlp D F T I C m v n lf) (4 ^ m)
theorem full4 : ∀ n, n ≤ 4 → ((1:Int32) <<< (nI n &&& 31)) - (1:Int32) = nI (2 ^ n - 1) := by decide +kernel
theorem and16 : ∀ s, s < 16 → ∀ lf, lf < 16 → ((nI s &&& nI lf = 0) ↔ s &&& lf = 0) := by decide +kernel
theorem tT_loop {N n lf M : Nat} (hn : n ≤ 4) (hlf : lf < 16) (hM : M < 65536) (b : Bool) (hb : b = true ↔ ∀ x, x < 2 ^ n → M.testBit x = true → x &&& lf ≠ 0) :
    ∀ (j g s : Nat), s + j = 2 ^ n → j < g → (∀ x, x < s → M.testBit x = true → x &&& lf ≠ 0) → f_X5_tellsTrial_11 N (nI lf) (nI M) (nI (2 ^ n - 1)) (fun z4_11 => some (1:Int32)) g (nI s) = some (if b = true then 1 else 0) := by
  have h16 : 2 ^ n ≤ 16 := Nat.pow_le_pow_right (n := 2) (by decide) hn
  have hpos : 0 < 2 ^ n := Nat.pow_pos (by decide)
  intro j
  induction j with
  | zero =>
    intro g s hs hg ha
    obtain ⟨g', rfl⟩ : ∃ g', g = g' + 1 := ⟨g - 1, by omega⟩
    have : s = 2 ^ n := by omega
    subst this
    rw [f_X5_tellsTrial_11, if_pos (by rw [lt_n (by omega) (by omega)]; omega), if_pos (hb.mpr ha)]
  | succ j ih =>
    intro g s hs hg ha
    obtain ⟨g', rfl⟩ : ∃ g', g = g' + 1 := ⟨g - 1, by omega⟩
    rw [f_X5_tellsTrial_11, if_neg (by rw [lt_n (by omega) (by omega)]; omega), A1r]
    by_cases t : M.testBit s = true
    · rw [if_neg (by rw [bitS (by omega) hM, t]; exact Bool.noConfusion)]
      by_cases z : s &&& lf = 0
      · rw [if_pos ((and16 s (by omega) lf hlf).mpr z), if_neg (fun y => (hb.mp y) s (by omega) t z)]
      · rw [if_neg (fun y => z ((and16 s (by omega) lf hlf).mp y))]
        refine ih g' (s + 1) (by omega) (by omega) (fun x hx hxt => ?_)
        by_cases e : x = s
        · rw [e]; exact z
        · exact ha x (by omega) hxt
    · rw [if_pos (by rw [bitS (by omega) hM]; exact Bool.not_eq_true _ ▸ t)]
      refine ih g' (s + 1) (by omega) (by omega) (fun x hx hxt => ?_)
      by_cases e : x = s
      · rw [e] at hxt; exact absurd hxt t
      · exact ha x (by omega) hxt
theorem tT {N n m v lf M : Nat} {D F T I C : Nat → Nat} (hN : 200000 ≤ N) (hn : n ≤ 4) (hlf : lf < 16) (hM : MaskR D F T I C m v n (4 ^ m) M) : f_X5_tellsTrial N (nI lf) (nI M) (nI n) = some (if tB D F T I C m v n lf = true then 1 else 0) := by
  have h16 : 2 ^ n ≤ 16 := Nat.pow_le_pow_right (n := 2) (by decide) hn
  unfold f_X5_tellsTrial f_X1_everybody
  rw [Option.bind_some, full4 n hn]
  refine tT_loop hn hlf hM.1 _ ?_ (2 ^ n) N 0 (by omega) (by omega) (fun x hx => by omega)
  unfold tB
  rw [allb_iff]
  constructor
  · intro h x hx hxt z
    obtain ⟨i, h1, h2, h3⟩ := (hM.2 x (by omega)).mp hxt
    have := h i h1
    unfold tlp at this
    rw [decide_eq_false h2, Bool.false_or, decide_eq_true_iff, h3] at this
    exact this z
  · intro h i hi
    unfold tlp
    by_cases e : i = v
    · rw [decide_eq_true e]; rfl
    · have hu := (unl_lt (D := D) (F := F) (T := T) (I := I) (C := C) (m := m) (v := v) (k := i) hn)
      rw [decide_eq_true (h _ hu.1 ((hM.2 _ hu.2).mpr ⟨i, hi, e, rfl⟩)), Bool.or_true]
def wt (a lf : Nat) : Nat → Nat
  | 0 => 1
  | c + 1 => wt a lf c * (if lf.testBit c = true then 10 - a else a)
def bcn (s : Nat) : Nat := s % 2 + s / 2 % 2 + s / 4 % 2 + s / 8 % 2
theorem bcJ (N : Nat) : ∀ s, s < 16 → f_J6_bitCount_0f7a4 N (nI s) = some (nI (bcn s)) := by unfold f_J6_bitCount_0f7a4; decide +kernel
theorem bcn_le : ∀ n, n < 5 → ∀ s, s < 16 → s < 2 ^ n → bcn s ≤ n := by decide +kernel
theorem wt_eq : ∀ n, n < 5 → ∀ lf, lf < 16 → ∀ a, a < 11 → lf < 2 ^ n → (10 - a) ^ bcn lf * a ^ (n - bcn lf) = wt a lf n := by decide +kernel
theorem wt_sum : ∀ n, n < 5 → ∀ a, a < 11 → smn (fun lf => wt a lf n) (2 ^ n) = 10 ^ n := by decide +kernel
theorem hasM (N : Nat) : ∀ c, c < 4 → ∀ lf, lf < 16 → f_X6_has N (nI lf) (nI c) = some (if lf.testBit c = true then 1 else 0) := by unfold f_X6_has; decide +kernel
theorem pw_loop {N x e : Nat} (he : e < 100) (kk : Int32 → Int32 → Option Int32) : ∀ (j g k : Nat), k + j = e → j < g → f_X5_power_4 N (nI x) (nI e) kk g (nI (x ^ k)) (nI k) = kk (nI (x ^ e)) (nI e) := by
  intro j
  induction j with
  | zero =>
    intro g k hk hg
    obtain ⟨g', rfl⟩ : ∃ g', g = g' + 1 := ⟨g - 1, by omega⟩
    have : k = e := by omega
    subst this
    rw [f_X5_power_4, if_pos (by rw [le_n (by omega) (by omega)]; omega)]
  | succ j ih =>
    intro g k hk hg
    obtain ⟨g', rfl⟩ : ∃ g', g = g' + 1 := ⟨g - 1, by omega⟩
    rw [f_X5_power_4, if_neg (by rw [le_n (by omega) (by omega)]; omega), mul_n, A1r, ← Nat.pow_succ]
    exact ih g' (k + 1) (by omega) (by omega)
theorem pw {N x e : Nat} (hN : 200000 ≤ N) (he : e < 100) : f_X5_power N (nI x) (nI e) = some (nI (x ^ e)) := by
  unfold f_X5_power
  exact pw_loop he (fun z2_4 z3_4 => some z2_4) e N 0 (by omega) (by omega)
def nu (D F T I C : Nat → Nat) (m v n a : Nat) : Nat → Nat := smn (fun lf => if tB D F T I C m v n lf = true then wt a lf n else 0)
