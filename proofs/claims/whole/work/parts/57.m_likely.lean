/-! fractions, and what is sure -/
theorem cd_loop {N : Nat} (kk : Int32 → Int32 → Int32 → Option Int32) : ∀ (s a b st g : Nat), b < 2 ^ s → st + 2 * s < 64 → 2 * s < g → s ≤ 30 → a < 2147483648 → ∃ z1 z2, f_X5_commonDivisor_7 N kk g (nI a) (nI b) (nI st) = kk (nI (Nat.gcd a b)) z1 z2 := by
  intro s
  induction s with
  | zero =>
    intro a b st g hb hst hg hs ha
    obtain ⟨g', rfl⟩ : ∃ g', g = g' + 1 := ⟨g - 1, by omega⟩
    have : b = 0 := by simpa using hb
    subst this
    refine ⟨nI 0, nI st, ?_⟩
    rw [f_X5_commonDivisor_7, if_neg (by rw [L64, le_n (by omega) (by omega)]; omega), if_pos (show nI 0 = (0:Int32) from rfl), Nat.gcd_zero_right]
  | succ s ih =>
    intro a b st g hb hst hg hs ha
    obtain ⟨g', rfl⟩ : ∃ g', g = g' + 2 := ⟨g - 2, by omega⟩
    have h30 : 2 ^ (s + 1) ≤ 2 ^ 30 := Nat.pow_le_pow_right (by decide) (by omega)
    by_cases b0 : b = 0
    · subst b0
      refine ⟨nI 0, nI st, ?_⟩
      rw [f_X5_commonDivisor_7, if_neg (by rw [L64, le_n (by omega) (by omega)]; omega), if_pos (show nI 0 = (0:Int32) from rfl), Nat.gcd_zero_right]
    · have hr : a % b < b := Nat.mod_lt _ (by omega)
      have e1 : Nat.gcd a b = Nat.gcd (a % b) b := by rw [Nat.gcd_comm a b, Nat.gcd_rec b a]
      rw [f_X5_commonDivisor_7, if_neg (by rw [L64, le_n (by omega) (by omega)]; omega), if_neg (nI_ne0 (by omega) (by omega)), gN_n (by omega) (by omega), rem_n ha (by omega) (by omega), A1r]
      by_cases r0 : a % b = 0
      · refine ⟨nI 0, nI (st + 1), ?_⟩
        rw [f_X5_commonDivisor_7, if_neg (by rw [L64, le_n (by omega) (by omega)]; omega), r0, if_pos (show nI 0 = (0:Int32) from rfl), e1, r0, Nat.gcd_zero_left]
      · have hq : b % (a % b) < a % b := Nat.mod_lt _ (by omega)
        have hd := Nat.div_add_mod b (a % b)
        have h1 : 1 ≤ b / (a % b) := Nat.div_pos (by omega) (by omega)
        have h2 : a % b ≤ (a % b) * (b / (a % b)) := Nat.le_mul_of_pos_right _ h1
        rw [Nat.pow_succ] at hb
        obtain ⟨z1, z2, hz⟩ := ih (a % b) (b % (a % b)) (st + 2) g' (by omega) (by omega) (by omega) (by omega) (by omega)
        refine ⟨z1, z2, ?_⟩
        rw [f_X5_commonDivisor_7, if_neg (by rw [L64, le_n (by omega) (by omega)]; omega), if_neg (nI_ne0 (by omega) (by omega)), gN_n (by omega) (by omega), rem_n (by omega) (by omega) (by omega), A1r, hz, e1, Nat.gcd_rec (a % b) b, Nat.gcd_comm]
theorem cm_loop {N : Nat} (kk : Int32 → Int32 → Option Int32) : ∀ (s a b g : Nat), b < 2 ^ s → 2 * s < g → s ≤ 30 → a < 2147483648 → ∃ z1, f_X6_common_4 N kk g (nI a) (nI b) = kk (nI (Nat.gcd a b)) z1 := by
  intro s
  induction s with
  | zero =>
    intro a b g hb hg hs ha
    obtain ⟨g', rfl⟩ : ∃ g', g = g' + 1 := ⟨g - 1, by omega⟩
    have : b = 0 := by simpa using hb
    subst this
    refine ⟨nI 0, ?_⟩
    rw [f_X6_common_4, if_pos (show nI 0 = (0:Int32) from rfl), Nat.gcd_zero_right]
  | succ s ih =>
    intro a b g hb hg hs ha
    obtain ⟨g', rfl⟩ : ∃ g', g = g' + 2 := ⟨g - 2, by omega⟩
    have h30 : 2 ^ (s + 1) ≤ 2 ^ 30 := Nat.pow_le_pow_right (by decide) (by omega)
    by_cases b0 : b = 0
    · subst b0
      refine ⟨nI 0, ?_⟩
      rw [f_X6_common_4, if_pos (show nI 0 = (0:Int32) from rfl), Nat.gcd_zero_right]
    · have hr : a % b < b := Nat.mod_lt _ (by omega)
      have e1 : Nat.gcd a b = Nat.gcd (a % b) b := by rw [Nat.gcd_comm a b, Nat.gcd_rec b a]
      rw [f_X6_common_4, if_neg (nI_ne0 (by omega) (by omega)), gN_n (by omega) (by omega), rem_n ha (by omega) (by omega)]
      by_cases r0 : a % b = 0
      · refine ⟨nI 0, ?_⟩
        rw [f_X6_common_4, r0, if_pos (show nI 0 = (0:Int32) from rfl), e1, r0, Nat.gcd_zero_left]
      · have hq : b % (a % b) < a % b := Nat.mod_lt _ (by omega)
        have hd := Nat.div_add_mod b (a % b)
        have h1 : 1 ≤ b / (a % b) := Nat.div_pos (by omega) (by omega)
        have h2 : a % b ≤ (a % b) * (b / (a % b)) := Nat.le_mul_of_pos_right _ h1
        rw [Nat.pow_succ] at hb
        obtain ⟨z1, hz⟩ := ih (a % b) (b % (a % b)) g' (by omega) (by omega) (by omega) (by omega)
        refine ⟨z1, ?_⟩
        rw [f_X6_common_4, if_neg (nI_ne0 (by omega) (by omega)), gN_n (by omega) (by omega), rem_n (by omega) (by omega) (by omega), hz, e1, Nat.gcd_rec (a % b) b, Nat.gcd_comm]
theorem fracX {N a b : Nat} {u : Int32} (hN : 200000 ≤ N) (ha : a < 65536) (hb : b < 65536) (hb0 : 0 < b) (hu : u = 0 ∨ u = 1) : f_X5_partOfFraction N (nI a) (nI b) u = some (nI ((if u = 0 then b else a) / Nat.gcd a b)) := by
  obtain ⟨z1, z2, h1⟩ := cd_loop (N := N) (fun z2_7 z3_7 z4_7 => some z2_7) 16 a b 0 N (by omega) (by omega) (by omega) (by omega) (by omega)
  have hg0 : 0 < Nat.gcd a b := Nat.gcd_pos_of_pos_right a hb0
  have hgl : Nat.gcd a b ≤ b := Nat.le_of_dvd hb0 (Nat.gcd_dvd_right a b)
  unfold f_X5_partOfFraction f_X5_commonDivisor
  rw [L0, h1, Option.bind_some]
  have hm : (if (1:Int32) < nI (Nat.gcd a b) then nI (Nat.gcd a b) else (1:Int32)) = nI (Nat.gcd a b) := by
    split
    · rfl
    · next h =>
      rw [L1, lt_n (by omega) (by omega)] at h
      rw [show Nat.gcd a b = 1 by omega]; rfl
  rw [hm, gN_n hg0 (by omega), gN_n hg0 (by omega), div_n (by omega) hg0 (by omega), div_n (by omega) hg0 (by omega), ← L0]
  rcases hu with rfl | rfl
  · rw [if_pos z00, if_pos z00]
  · rw [if_neg n10, if_neg n10]
theorem fracM {N a b : Nat} (hN : 200000 ≤ N) (ha : a < 65536) (hb : b < 65536) : f_X6_common N (nI a) (nI b) = some (nI (Nat.gcd a b)) := by
  obtain ⟨z1, h1⟩ := cm_loop (N := N) (fun z2_4 z3_4 => some z2_4) 16 a b N (by omega) (by omega) (by omega) (by omega)
  unfold f_X6_common
  rw [h1]
/-- of those that fit, those with the word w at place pl -/
theorem wON {N m v k : Nat} (hN : 200000 ≤ N) (hm : m ≤ 6) (hv : v < 4 ^ m) (hk : k < m) : f_X4_wordOrNone N (nI (4 ^ m + v)) (nI k) = some (nI (wd m v k)) := by
  unfold f_X4_wordOrNone
  rw [wI hN hm hv, Option.bind_some, if_neg (nI_pos (by omega)), if_pos (by rw [lt_n (by omega) (by omega)]; exact hk), wA hm hv hk]
  rfl
theorem lkX_loop {N n l pl w : Nat} {D F T I C : Nat → Nat} {t : Nat → Option (Nat × Nat)} {bd bf bt bi bc to md mi mn mt : Nat → Int32} (hN : 200000 ≤ N) (h : Cx n D F T I C t bd bf bt bi bc to md mi mn mt) (hl : l ≤ 5) (hpl : pl < l) (hw : w < 4) (kk : Int32 → Int32 → Int32 → (Nat → Int32) → Option (Int32 × (Nat → Int32))) :
    ∀ (j g k : Nat) (P : Nat → Int32), k + j = 4 ^ l → j < g → ∃ P', f_X5_likely_45 N (nI pl) (nI w) (nI n) bd bf bt bi bc to (nI (2 * 4 ^ l)) kk g (nI (cnt (fun v => fitB n D F T I C t l v n) k)) (nI (cnt (fun v => fitB n D F T I C t l v n && decide (wd l v pl = w)) k)) (nI (4 ^ l + k)) P = kk (nI (cnt (fun v => fitB n D F T I C t l v n) (4 ^ l))) (nI (cnt (fun v => fitB n D F T I C t l v n && decide (wd l v pl = w)) (4 ^ l))) (nI (2 * 4 ^ l)) P' := by
  have hp := p4_le5 hl
  intro j
  induction j with
  | zero =>
    intro g k P hk hg
    obtain ⟨g', rfl⟩ : ∃ g', g = g' + 1 := ⟨g - 1, by omega⟩
    have : k = 4 ^ l := by omega
    subst this
    exact ⟨P, by rw [f_X5_likely_45, if_pos (by rw [le_n (by omega) (by omega)]; omega), show 4 ^ l + 4 ^ l = 2 * 4 ^ l by omega]⟩
  | succ j ih =>
    intro g k P hk hg
    obtain ⟨g', rfl⟩ : ∃ g', g = g' + 1 := ⟨g - 1, by omega⟩
    obtain ⟨P1, h1, -⟩ := aT P hN h (show l ≤ 6 by omega) (show k < 4 ^ l by omega)
    obtain ⟨P2, h2⟩ := ih g' (k + 1) P1 (by omega) (by omega)
    refine ⟨P2, ?_⟩
    have hwd := wd_lt l k pl
    rw [f_X5_likely_45, if_neg (by rw [le_n (by omega) (by omega)]; omega), h1, Option.bind_some, wON hN (by omega) (show k < 4 ^ l by omega) hpl, Option.bind_some, A1r, A1r, A1r]
    dsimp only
    rw [← Nat.add_assoc] at h2
    by_cases q : fitB n D F T I C t l k n = true
    · rw [if_pos q, if_neg n10]
      rw [cnt_y (p := fun v => fitB n D F T I C t l v n) q] at h2
      by_cases r : wd l k pl = w
      · rw [if_pos (by rw [r])]
        rw [cnt_y (p := fun v => fitB n D F T I C t l v n && decide (wd l v pl = w)) (by simp [q, r])] at h2
        exact h2
      · rw [if_neg (by rw [eq_n (by omega) (by omega)]; exact r)]
        rw [cnt_f (p := fun v => fitB n D F T I C t l v n && decide (wd l v pl = w)) (by simp [r])] at h2
        exact h2
    · rw [if_neg q, if_pos z00]
      rw [cnt_f (p := fun v => fitB n D F T I C t l v n) q, cnt_f (p := fun v => fitB n D F T I C t l v n && decide (wd l v pl = w)) (by simp [q])] at h2
      exact h2
theorem fwM_loop {N n l pl w : Nat} {D F T I C : Nat → Nat} {t : Nat → Option (Nat × Nat)} {bd bf bt bi bc to md mi mn mt : Nat → Int32} (hN : 200000 ≤ N) (h : Cx n D F T I C t bd bf bt bi bc to md mi mn mt) (hl : l ≤ 5) (hpl : pl < l) (hw : w < 4) (kk : Int32 → Int32 → (Nat → Int32) → Option (Int32 × (Nat → Int32))) :
    ∀ (j g k : Nat) (P : Nat → Int32), k + j = 4 ^ l → j < g → ∃ P', f_X6_fitsWith_6 N (nI l) (nI pl) (nI w) (nI n) md mi mn mt kk g (nI (cnt (fun v => fitB n D F T I C t l v n && decide (wd l v pl = w)) k)) (nI k) P = kk (nI (cnt (fun v => fitB n D F T I C t l v n && decide (wd l v pl = w)) (4 ^ l))) (nI (4 ^ l)) P' := by
  have hp := p4_le5 hl
  intro j
  induction j with
  | zero =>
    intro g k P hk hg
    obtain ⟨g', rfl⟩ : ∃ g', g = g' + 1 := ⟨g - 1, by omega⟩
    have : k = 4 ^ l := by omega
    subst this
    exact ⟨P, by rw [f_X6_fitsWith_6, fT (by omega), Option.bind_some, if_pos (by rw [le_n (by omega) (by omega)]; omega)]⟩
  | succ j ih =>
    intro g k P hk hg
    obtain ⟨g', rfl⟩ : ∃ g', g = g' + 1 := ⟨g - 1, by omega⟩
    have hwd := wd_lt l k pl
    rw [f_X6_fitsWith_6, fT (by omega), Option.bind_some, if_neg (by rw [le_n (by omega) (by omega)]; omega), mulL, add_n, mA (by omega) (show k < 4 ^ l by omega) hpl, Option.bind_some, A1r, A1r, A0r]
    by_cases r : wd l k pl = w
    · rw [if_pos (by rw [r])]
      obtain ⟨P1, h1, -⟩ := iF P hN h (show l ≤ 6 by omega) (show k < 4 ^ l by omega)
      obtain ⟨P2, h2⟩ := ih g' (k + 1) P1 (by omega) (by omega)
      refine ⟨P2, ?_⟩
      rw [h1, Option.bind_some]
      dsimp only
      by_cases q : fitB n D F T I C t l k n = true
      · rw [if_pos q, if_neg n10]
        rw [cnt_y (p := fun v => fitB n D F T I C t l v n && decide (wd l v pl = w)) (by simp [q, r])] at h2
        exact h2
      · rw [if_neg q, if_pos z00]
        rw [cnt_f (p := fun v => fitB n D F T I C t l v n && decide (wd l v pl = w)) (by simp [q])] at h2
        exact h2
    · rw [if_neg (by rw [eq_n (by omega) (by omega)]; exact r)]
      obtain ⟨P2, h2⟩ := ih g' (k + 1) P (by omega) (by omega)
      refine ⟨P2, ?_⟩
      rw [cnt_f (p := fun v => fitB n D F T I C t l v n && decide (wd l v pl = w)) (by simp [r])] at h2
      exact h2
theorem fwM {N n l pl w : Nat} {D F T I C : Nat → Nat} {t : Nat → Option (Nat × Nat)} {bd bf bt bi bc to md mi mn mt : Nat → Int32} (P : Nat → Int32) (hN : 200000 ≤ N) (h : Cx n D F T I C t bd bf bt bi bc to md mi mn mt) (hl : l ≤ 5) (hpl : pl < l) (hw : w < 4) : ∃ P', f_X6_fitsWith N (nI l) (nI pl) (nI w) (nI n) md mi mn mt P = some (nI (cnt (fun v => fitB n D F T I C t l v n && decide (wd l v pl = w)) (4 ^ l)), P') := by
  have hp := p4_le5 hl
  obtain ⟨P', h1⟩ := fwM_loop hN h hl hpl hw (fun z4_6 z5_6 zvt_pages_6 => some (z4_6, zvt_pages_6)) (4 ^ l) N 0 P (by omega) (by omega)
  exact ⟨P', by unfold f_X6_fitsWith; exact h1⟩
