/-! habits that give a told page -/
def vH (h : Nat) : Bool := (decide (h / 50 % 5 = 0) && decide (h / 10 % 5 = 0)) || (decide (h / 50 % 5 ≠ 0) && decide (h / 10 % 5 ≠ 0) && decide (h / 10 % 5 ≠ h / 50 % 5))
def qH (m v : Nat) (ab : Nat × Nat) (h : Nat) : Bool := decide (wrt (h / 250) (h / 50 % 5) (h / 10 % 5) (h % 10) m v m = ab)
def hF (p : Nat) : Nat := if p = 0 then 0 else (p - 1) / 3 + 1
def hT (p : Nat) : Nat := if p = 0 then 0 else (if (p - 1) / 3 ≤ (p - 1) % 3 then (p - 1) % 3 + 1 else (p - 1) % 3) + 1
def phi (h : Nat) : Nat := h / 130 * 250 + hF (h / 10 % 13) * 50 + hT (h / 10 % 13) * 10 + h % 10
theorem vH_iff {h : Nat} : vH h = true ↔ (h / 50 % 5 = 0 ∧ h / 10 % 5 = 0) ∨ (h / 50 % 5 ≠ 0 ∧ h / 10 % 5 ≠ 0 ∧ h / 10 % 5 ≠ h / 50 % 5) := by
  unfold vH
  rw [Bool.or_eq_true, Bool.and_eq_true, Bool.and_eq_true, Bool.and_eq_true, decide_eq_true_iff, decide_eq_true_iff, decide_eq_true_iff, decide_eq_true_iff, decide_eq_true_iff, and_assoc]
theorem phi_all : (List.range' 0 1250).filter vH = (List.range' 0 650).map phi := by decide +kernel
theorem hFT_ok : ∀ p, p < 13 → hF p ≤ 4 ∧ hT p ≤ 4 ∧ (hF p ≠ 0 → hT p ≠ 0) ∧ (p = 0 ↔ hF p = 0) ∧ (p = 0 ↔ hT p = 0) := by decide +kernel
theorem phi_get {h : Nat} (hh : h < 650) : phi h / 250 = h / 130 ∧ phi h / 50 % 5 = hF (h / 10 % 13) ∧ phi h / 10 % 5 = hT (h / 10 % 13) ∧ phi h % 10 = h % 10 := by
  have := hFT_ok (h / 10 % 13) (Nat.mod_lt _ (by decide))
  unfold phi
  generalize hF (h / 10 % 13) = f at *
  generalize hT (h / 10 % 13) = t at *
  omega
theorem fO6 (N : Nat) : ∀ p, p < 13 → f_X6_fromOf N (nI p) = some (mN (hF p)) := by unfold f_X6_fromOf; decide +kernel
theorem tO6 (N : Nat) : ∀ p, p < 13 → f_X6_toOf N (nI p) = some (mN (hT p)) := by unfold f_X6_toOf f_X6_fromOf; decide +kernel
theorem hGX {N m v a b h : Nat} (hN : 200000 ≤ N) (hm : m ≤ 6) (hv : v < 4 ^ m) (ha : a ≤ 6) (hb : b < 4 ^ a) (hh : h < 1250) : f_X5_habitGives N (nI h) (nI (4 ^ a + b)) (nI (4 ^ m + v)) = some (if (vH h && qH m v (a, b) h) = true then 1 else 0) := by
  unfold f_X5_habitGives f_X5_fromOf f_X5_toOf f_X5_dropsOf f_X5_tiresOf
  have e1 : nI h / (50:Int32) - nI h / (50:Int32) / (5:Int32) * (5:Int32) = nI (h / 50 % 5) := by
    rw [show (50:Int32) = nI 50 from rfl, div_n (by omega) (by omega) (by omega), L5, rem_n (by omega) (by omega) (by omega)]
  have e2 : nI h / (10:Int32) - nI h / (10:Int32) / (5:Int32) * (5:Int32) = nI (h / 10 % 5) := by
    rw [L10, div_n (by omega) (by omega) (by omega), L5, rem_n (by omega) (by omega) (by omega)]
  have e3 : nI h / (250:Int32) = nI (h / 250) := by
    rw [show (250:Int32) = nI 250 from rfl, div_n (by omega) (by omega) (by omega)]
  have e4 : nI h - nI h / (10:Int32) * (10:Int32) = nI (h % 10) := by
    rw [L10, rem_n (by omega) (by omega) (by omega)]
  rw [e1, e2, e3, e4]
  simp only [Option.bind_some]
  have hfl : h / 50 % 5 ≤ 4 := by omega
  have htl : h / 10 % 5 ≤ 4 := by omega
  have fin : (h / 50 % 5 ≠ 0 → h / 10 % 5 ≠ 0) → vH h = true → ((f_X1_taken N (nI (4 ^ m + v)) (nI (h / 250)) (nI (h / 50 % 5)) (nI (h / 10 % 5)) (nI (h % 10))).bind fun x => if x = nI (4 ^ a + b) then some (1:Int32) else some 0) = some (if (vH h && qH m v (a, b) h) = true then 1 else 0) := by
    intro hne hvv
    obtain ⟨q1, q2⟩ := wrt_ok (d := h / 250) (f := h / 50 % 5) (t := h / 10 % 5) (ti := h % 10) (m := m) (v := v) htl hne m
    rw [tk hN hm hv (by omega) hfl htl (by omega) hne, Option.bind_some, hvv, Bool.true_and]
    unfold qH
    by_cases w : wrt (h / 250) (h / 50 % 5) (h / 10 % 5) (h % 10) m v m = (a, b)
    · rw [if_pos (by rw [rC_eq (by omega) ha q2 hb]; exact w), if_pos (decide_eq_true w)]
    · rw [if_neg (by rw [rC_eq (by omega) ha q2 hb]; exact w), if_neg (fun z => w (of_decide_eq_true z))]
  have bad : ¬ vH h = true → (some (0:Int32)) = some (if (vH h && qH m v (a, b) h) = true then 1 else 0) := by
    intro z
    rw [Bool.not_eq_true] at z
    rw [z, Bool.false_and, if_neg Bool.noConfusion]
  by_cases f0 : h / 50 % 5 = 0
  · rw [if_pos (by rw [f0]; rfl)]
    by_cases t0 : h / 10 % 5 = 0
    · rw [if_pos (by rw [t0]; rfl)]
      exact fin (fun z => absurd f0 z) (by rw [vH_iff]; omega)
    · rw [if_neg (by rw [L0, eq_n (by omega) (by omega)]; exact t0)]
      exact bad (by rw [vH_iff]; omega)
  · rw [if_neg (by rw [L0, eq_n (by omega) (by omega)]; exact f0)]
    by_cases t0 : h / 10 % 5 = 0
    · rw [if_pos (by rw [t0]; rfl)]
      exact bad (by rw [vH_iff]; omega)
    · rw [if_neg (by rw [L0, eq_n (by omega) (by omega)]; exact t0)]
      by_cases e : h / 10 % 5 = h / 50 % 5
      · rw [if_pos (by rw [e])]
        exact bad (by rw [vH_iff]; omega)
      · rw [if_neg (by rw [eq_n (by omega) (by omega)]; exact e)]
        exact fin (fun _ => t0) (by rw [vH_iff]; omega)
theorem iHM {N m v a b c h : Nat} {mn mt : Nat → Int32} (hN : 200000 ≤ N) (hm : m ≤ 6) (hv : v < 4 ^ m) (ha : a ≤ 6) (hb : b < 4 ^ a) (hh : h < 650) (hc : c < 4) (h0 : mn 0 = nI (4096 * m + v)) (ht : mt c = nI (4096 * a + b)) : f_X6_isHabit N (nI c) (nI h) mn mt = some (if qH m v (a, b) (phi h) = true then 1 else 0) := by
  unfold f_X6_isHabit
  obtain ⟨g1, g2, g3, g4⟩ := phi_get hh
  obtain ⟨k1, k2, k3, -, -⟩ := hFT_ok (h / 10 % 13) (Nat.mod_lt _ (by decide))
  have e1 : nI h / (10:Int32) - nI h / (10:Int32) / (13:Int32) * (13:Int32) = nI (h / 10 % 13) := by
    rw [L10, div_n (by omega) (by omega) (by omega), L13, rem_n (by omega) (by omega) (by omega)]
  have e3 : nI h / (130:Int32) = nI (h / 130) := by
    rw [L130, div_n (by omega) (by omega) (by omega)]
  have e4 : nI h - nI h / (10:Int32) * (10:Int32) = nI (h % 10) := by
    rw [L10, rem_n (by omega) (by omega) (by omega)]
  obtain ⟨q1, q2⟩ := wrt_ok (d := h / 130) (f := hF (h / 10 % 13)) (t := hT (h / 10 % 13)) (ti := h % 10) (m := m) (v := v) k2 k3 m
  rw [e1, e3, e4, fO6 N _ (Nat.mod_lt _ (by decide)), tO6 N _ (Nat.mod_lt _ (by decide)), Option.bind_some, Option.bind_some, Option.bind_some, Option.bind_some, h0]
  simp only [gI_n hc (show (4:Nat) < 2147483648 by decide), cl_n (show c < 2147483648 by omega), ht]
  have w9 : ∀ d : Int32, d = mN (h / 130) → ((f_X6_written N (nI (4096 * m + v)) d (mN (hF (h / 10 % 13))) (mN (hT (h / 10 % 13))) (nI (h % 10))).bind fun x => if x = nI (4096 * a + b) then some (1:Int32) else some 0) = some (if qH m v (a, b) (phi h) = true then 1 else 0) := by
    intro d hd
    rw [hd, wr hN hm hv (by omega) k1 k2 (by omega) k3, Option.bind_some]
    unfold qH
    rw [g1, g2, g3, g4]
    by_cases w : wrt (h / 130) (hF (h / 10 % 13)) (hT (h / 10 % 13)) (h % 10) m v m = (a, b)
    · rw [if_pos (by rw [rM_eq (by omega) ha q2 hb]; exact w), if_pos (decide_eq_true w)]
    · rw [if_neg (by rw [rM_eq (by omega) ha q2 hb]; exact w), if_neg (fun z => w (of_decide_eq_true z))]
  by_cases z : h / 130 = 0
  · rw [if_pos (by rw [z]; rfl)]
    exact w9 (-9) (by rw [z]; rfl)
  · rw [if_neg (by rw [L0, eq_n (by omega) (by omega)]; exact z)]
    exact w9 _ (by rw [L1, sub_n (by omega), mN_s z])
theorem hsX_loop {N m v a b c : Nat} {to : Nat → Int32} (hN : 200000 ≤ N) (hm : m ≤ 6) (hv : v < 4 ^ m) (ha : a ≤ 6) (hb : b < 4 ^ a) (hc : c < 4) (ht : to c = nI (4 ^ a + b)) (kk : Int32 → Int32 → Option Int32) :
    ∀ (j g k z : Nat), k + j = 1250 → j < g → f_X5_habits_29 N (nI c) (nI (4 ^ m + v)) to kk g (nI z) (nI k) = kk (nI (z + (List.range' k j).countP (fun h => vH h && qH m v (a, b) h))) (nI 1250) := by
  intro j
  induction j with
  | zero =>
    intro g k z hk hg'
    obtain ⟨g', rfl⟩ : ∃ g', g = g' + 1 := ⟨g - 1, by omega⟩
    have : k = 1250 := by omega
    subst this
    rw [f_X5_habits_29, if_pos (by rw [L1250, le_n (by omega) (by omega)]; omega)]
    rfl
  | succ j ih =>
    intro g k z hk hg'
    obtain ⟨g', rfl⟩ : ∃ g', g = g' + 1 := ⟨g - 1, by omega⟩
    rw [f_X5_habits_29, if_neg (by rw [L1250, le_n (by omega) (by omega)]; omega), gI_n hc (by decide), cl_n (by omega), ht, hGX hN hm hv ha hb (by omega), Option.bind_some, A1r, A1r, List.range'_succ, List.countP_cons]
    by_cases y : (vH k && qH m v (a, b) k) = true
    · rw [if_neg (by rw [if_pos y]; exact n10), if_pos y, ih g' (k + 1) (z + 1) (by omega) (by omega)]
      congr 2; omega
    · rw [if_pos (by rw [if_neg y]), if_neg y, ih g' (k + 1) z (by omega) (by omega)]
      rfl
theorem hsM_loop {N m v a b c : Nat} {mn mt : Nat → Int32} (hN : 200000 ≤ N) (hm : m ≤ 6) (hv : v < 4 ^ m) (ha : a ≤ 6) (hb : b < 4 ^ a) (hc : c < 4) (h0 : mn 0 = nI (4096 * m + v)) (ht : mt c = nI (4096 * a + b)) (kk : Int32 → Int32 → Option Int32) :
    ∀ (j g k z : Nat), k + j = 650 → j < g → f_X6_habits_28 N (nI c) mn mt kk g (nI z) (nI k) = kk (nI (z + (List.range' k j).countP (fun h => qH m v (a, b) (phi h)))) (nI 650) := by
  intro j
  induction j with
  | zero =>
    intro g k z hk hg'
    obtain ⟨g', rfl⟩ : ∃ g', g = g' + 1 := ⟨g - 1, by omega⟩
    have : k = 650 := by omega
    subst this
    rw [f_X6_habits_28, if_pos (by rw [L650, le_n (by omega) (by omega)]; omega)]
    rfl
  | succ j ih =>
    intro g k z hk hg'
    obtain ⟨g', rfl⟩ : ∃ g', g = g' + 1 := ⟨g - 1, by omega⟩
    rw [f_X6_habits_28, if_neg (by rw [L650, le_n (by omega) (by omega)]; omega), iHM hN hm hv ha hb (by omega) hc h0 ht, Option.bind_some, A1r, A1r, A0r, List.range'_succ, List.countP_cons]
    by_cases y : qH m v (a, b) (phi k) = true
    · rw [if_neg (by rw [if_pos y]; exact n10), if_pos y, ih g' (k + 1) (z + 1) (by omega) (by omega)]
      congr 2; omega
    · rw [if_pos (by rw [if_neg y]), if_neg y, ih g' (k + 1) z (by omega) (by omega)]
      rfl
theorem hs_same (m v : Nat) (ab : Nat × Nat) : (List.range' 0 1250).countP (fun h => vH h && qH m v ab h) = (List.range' 0 650).countP (fun h => qH m v ab (phi h)) := by
  have e : (List.range' 0 1250).countP (fun h => vH h && qH m v ab h) = ((List.range' 0 1250).filter vH).countP (qH m v ab) := by
    rw [List.countP_filter]
    congr 1
    funext h
    exact Bool.and_comm _ _
  rw [e, phi_all, List.countP_map]
  rfl
def cdH (h : Nat) : Nat := 1000 * (h / 250) + 100 * (h / 50 % 5) + 10 * (h / 10 % 5) + h % 10
def aftH (o : Option Nat) (e : Option Int32) : Option Int32 := match o with
  | some h => some (nI (cdH h))
  | none => e
theorem hbX_loop {N m v a b c : Nat} {to : Nat → Int32} (hN : 200000 ≤ N) (hm : m ≤ 6) (hv : v < 4 ^ m) (ha : a ≤ 6) (hb : b < 4 ^ a) (hc : c < 4) (ht : to c = nI (4 ^ a + b)) (kk : Int32 → Option Int32) :
    ∀ (j g k : Nat), k + j = 1250 → j < g → f_X5_habit_27 N (nI c) (nI (4 ^ m + v)) to kk g (nI k) = aftH ((List.range' k j).find? (fun h => vH h && qH m v (a, b) h)) (kk (nI 1250)) := by
  intro j
  induction j with
  | zero =>
    intro g k hk hg'
    obtain ⟨g', rfl⟩ : ∃ g', g = g' + 1 := ⟨g - 1, by omega⟩
    have : k = 1250 := by omega
    subst this
    rw [f_X5_habit_27, if_pos (by rw [L1250, le_n (by omega) (by omega)]; omega)]
    rfl
  | succ j ih =>
    intro g k hk hg'
    obtain ⟨g', rfl⟩ : ∃ g', g = g' + 1 := ⟨g - 1, by omega⟩
    rw [f_X5_habit_27, if_neg (by rw [L1250, le_n (by omega) (by omega)]; omega), gI_n hc (by decide), cl_n (by omega), ht, hGX hN hm hv ha hb (by omega), Option.bind_some, A1r, List.range'_succ, List.find?_cons]
    by_cases y : (vH k && qH m v (a, b) k) = true
    · rw [if_neg (by rw [if_pos y]; exact n10)]
      simp only [y]
      unfold f_X5_fromOf f_X5_toOf f_X5_dropsOf f_X5_tiresOf
      have e1 : nI k / (50:Int32) - nI k / (50:Int32) / (5:Int32) * (5:Int32) = nI (k / 50 % 5) := by
        rw [show (50:Int32) = nI 50 from rfl, div_n (by omega) (by omega) (by omega), L5, rem_n (by omega) (by omega) (by omega)]
      have e2 : nI k / (10:Int32) - nI k / (10:Int32) / (5:Int32) * (5:Int32) = nI (k / 10 % 5) := by
        rw [L10, div_n (by omega) (by omega) (by omega), L5, rem_n (by omega) (by omega) (by omega)]
      have e3 : nI k / (250:Int32) = nI (k / 250) := by
        rw [show (250:Int32) = nI 250 from rfl, div_n (by omega) (by omega) (by omega)]
      have e4 : nI k - nI k / (10:Int32) * (10:Int32) = nI (k % 10) := by
        rw [L10, rem_n (by omega) (by omega) (by omega)]
      rw [e1, e2, e3, e4]
      simp only [Option.bind_some]
      rw [L1000, L100, L10, mul_n, mul_n, mul_n, add_n, add_n, add_n]
      rfl
    · rw [if_pos (by rw [if_neg y]), ih g' (k + 1) (by omega) (by omega)]
      rw [Bool.not_eq_true] at y
      simp only [y]
theorem hbM_loop {N m v a b c : Nat} {mn mt : Nat → Int32} (hN : 200000 ≤ N) (hm : m ≤ 6) (hv : v < 4 ^ m) (ha : a ≤ 6) (hb : b < 4 ^ a) (hc : c < 4) (h0 : mn 0 = nI (4096 * m + v)) (ht : mt c = nI (4096 * a + b)) (kk : Int32 → Option Int32) :
    ∀ (j g k : Nat), k + j = 650 → j < g → f_X6_habit_26 N (nI c) mn mt kk g (nI k) = aftH (((List.range' k j).find? (fun h => qH m v (a, b) (phi h))).map phi) (kk (nI 650)) := by
  intro j
  induction j with
  | zero =>
    intro g k hk hg'
    obtain ⟨g', rfl⟩ : ∃ g', g = g' + 1 := ⟨g - 1, by omega⟩
    have : k = 650 := by omega
    subst this
    rw [f_X6_habit_26, if_pos (by rw [L650, le_n (by omega) (by omega)]; omega)]
    rfl
  | succ j ih =>
    intro g k hk hg'
    obtain ⟨g', rfl⟩ : ∃ g', g = g' + 1 := ⟨g - 1, by omega⟩
    rw [f_X6_habit_26, if_neg (by rw [L650, le_n (by omega) (by omega)]; omega), iHM hN hm hv ha hb (by omega) hc h0 ht, Option.bind_some, A1r, List.range'_succ, List.find?_cons]
    by_cases y : qH m v (a, b) (phi k) = true
    · rw [if_neg (by rw [if_pos y]; exact n10)]
      simp only [y]
      obtain ⟨g1, g2, g3, g4⟩ := phi_get (show k < 650 by omega)
      obtain ⟨k1, k2, k3, k4, k5⟩ := hFT_ok (k / 10 % 13) (Nat.mod_lt _ (by decide))
      have e1 : nI k / (10:Int32) - nI k / (10:Int32) / (13:Int32) * (13:Int32) = nI (k / 10 % 13) := by
        rw [L10, div_n (by omega) (by omega) (by omega), L13, rem_n (by omega) (by omega) (by omega)]
      have e3 : nI k / (130:Int32) = nI (k / 130) := by
        rw [L130, div_n (by omega) (by omega) (by omega)]
      have e4 : nI k - nI k / (10:Int32) * (10:Int32) = nI (k % 10) := by
        rw [L10, rem_n (by omega) (by omega) (by omega)]
      rw [e1, e3, e4, fO6 N _ (Nat.mod_lt _ (by decide)), tO6 N _ (Nat.mod_lt _ (by decide)), Option.bind_some, Option.bind_some]
      show _ = some (nI (cdH (phi k)))
      unfold cdH
      rw [g1, g2, g3, g4]
      by_cases p0 : k / 10 % 13 = 0
      · rw [if_pos (by rw [p0]; rfl), k4.mp p0, k5.mp p0, L1000, L100, L10, L0, mul_n, mul_n, mul_n, add_n, add_n, add_n]
      · have f0 : hF (k / 10 % 13) ≠ 0 := fun z => p0 (k4.mpr z)
        have t0 : hT (k / 10 % 13) ≠ 0 := fun z => p0 (k5.mpr z)
        rw [if_neg (by rw [L0, eq_n (by omega) (by omega)]; exact p0), mN_s f0, mN_s t0, A1r, A1r, Nat.sub_add_cancel (by omega), Nat.sub_add_cancel (by omega), L1000, L100, L10, mul_n, mul_n, mul_n, add_n, add_n, add_n]
    · rw [if_pos (by rw [if_neg y]), ih g' (k + 1) (by omega) (by omega)]
      rw [Bool.not_eq_true] at y
      simp only [y]
theorem hb_same (m v : Nat) (ab : Nat × Nat) : (List.range' 0 1250).find? (fun h => vH h && qH m v ab h) = ((List.range' 0 650).find? (fun h => qH m v ab (phi h))).map phi := by
  have e : (List.range' 0 1250).find? (fun h => vH h && qH m v ab h) = ((List.range' 0 1250).filter vH).find? (qH m v ab) := by
    rw [List.find?_filter]
    congr 1
    funext h
    cases vH h <;> cases qH m v ab h <;> rfl
  rw [e, phi_all, List.find?_map]
  rfl
