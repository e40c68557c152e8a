/-! what a clerk writes -/
theorem A9 (c : Nat) : (9:Int32) + nI c = nI (9 + c) := nI_add 9 c
theorem A5 (c : Nat) : (5:Int32) + nI c = nI (5 + c) := nI_add 5 c
theorem A1 (c : Nat) : (1:Int32) + nI c = nI (1 + c) := nI_add 1 c
theorem A1r (c : Nat) : nI c + (1:Int32) = nI (c + 1) := nI_add c 1
def tired (k t : Nat) : Bool := decide (t < k) && decide ((k - t) % 2 = 1)
def wrt (d f t ti m v : Nat) : Nat → Nat × Nat
  | 0 => (0, 0)
  | k + 1 => if tired k ti = true ∨ wd m v k + 1 = d then wrt d f t ti m v k else ((wrt d f t ti m v k).1 + 1, 4 * (wrt d f t ti m v k).2 + (if wd m v k + 1 = f then t - 1 else wd m v k))
theorem wrt_ok {d f t ti m v : Nat} (ht : t ≤ 4) (hf : f ≠ 0 → t ≠ 0) : ∀ k, (wrt d f t ti m v k).1 ≤ k ∧ (wrt d f t ti m v k).2 < 4 ^ (wrt d f t ti m v k).1 := by
  intro k
  induction k with
  | zero => exact ⟨Nat.le_refl _, Nat.zero_lt_one⟩
  | succ k ih =>
    have hw := wd_lt m v k
    unfold wrt
    split
    · omega
    · refine ⟨by simp only; omega, ?_⟩
      simp only [Nat.pow_succ]
      have : (if wd m v k + 1 = f then t - 1 else wd m v k) < 4 := by
        split <;> omega
      omega
theorem iT {N k t : Nat} (hk : k ≤ 6) (ht : t ≤ 9) : f_X1_isTired N (nI k) (nI t) = some (if tired k t = true then 1 else 0) := by
  unfold f_X1_isTired tired
  by_cases h : k ≤ t
  · rw [if_pos (by rw [le_n (by omega) (by omega)]; exact h), if_neg (by simp; omega)]
  · rw [if_neg (by rw [le_n (by omega) (by omega)]; exact h), sub_n (by omega), L2, rem_n (by omega) (by omega) (by omega)]
    by_cases h2 : (k - t) % 2 = 1
    · rw [if_pos (by rw [L1, eq_n (by omega) (by omega)]; exact h2), if_pos (by simp; omega)]
    · rw [if_neg (by rw [L1, eq_n (by omega) (by omega)]; exact h2), if_neg (by simp; omega)]
theorem tk_loop {N d f t ti m v : Nat} (kk : Int32 → Int32 → Option Int32) (hm : m ≤ 6) (hv : v < 4 ^ m) (hd : d ≤ 4) (hf : f ≤ 4) (ht : t ≤ 4) (hti : ti ≤ 9) (hft : f ≠ 0 → t ≠ 0) :
    ∀ (j n k : Nat), k + j = m → j < n → f_X1_taken_12 N (nI (4 ^ m + v)) (nI d) (nI f) (nI t) (nI ti) (nI m) kk n (nI (4 ^ (wrt d f t ti m v k).1 + (wrt d f t ti m v k).2)) (nI k) = kk (nI (4 ^ (wrt d f t ti m v m).1 + (wrt d f t ti m v m).2)) (nI m) := by
  intro j
  induction j with
  | zero =>
    intro n k hk hn
    obtain ⟨n', rfl⟩ : ∃ n', n = n' + 1 := ⟨n - 1, by omega⟩
    have : k = m := by omega
    subst this
    rw [f_X1_taken_12, if_pos (by rw [le_n (by omega) (by omega)]; omega)]
  | succ j ih =>
    intro n k hk hn
    obtain ⟨n', rfl⟩ : ∃ n', n = n' + 1 := ⟨n - 1, by omega⟩
    have ok := wrt_ok (d := d) (ti := ti) (m := m) (v := v) ht hft k
    have hw := wd_lt m v k
    have step := ih n' (k + 1) (by omega) (by omega)
    rw [f_X1_taken_12, if_neg (by rw [le_n (by omega) (by omega)]; omega), wA hm hv (by omega), Option.bind_some, iT (by omega) hti, Option.bind_some, L1, add_n, add_n]
    by_cases h1 : tired k ti = true
    · rw [if_pos h1, if_neg (by decide)]
      rw [wrt, if_pos (Or.inl h1)] at step
      exact step
    · rw [if_neg h1, if_pos rfl]
      simp only [eq_n (a := wd m v k + 1) (b := d) (by omega) (by omega), eq_n (a := wd m v k + 1) (b := f) (by omega) (by omega)]
      by_cases h2 : wd m v k + 1 = d
      · rw [if_pos h2]
        rw [wrt, if_pos (Or.inr h2)] at step
        exact step
      · rw [if_neg h2]
        rw [wrt, if_neg (by rintro (q | q); exact h1 q; exact h2 q)] at step
        by_cases h3 : wd m v k + 1 = f
        · rw [if_pos h3, sub_n (by omega), wW (by omega) ok.2 (by omega), Option.bind_some]
          rw [if_pos h3] at step
          exact step
        · rw [if_neg h3, wW (by omega) ok.2 hw, Option.bind_some]
          rw [if_neg h3] at step
          exact step
theorem tk {N d f t ti m v : Nat} (hN : 200000 ≤ N) (hm : m ≤ 6) (hv : v < 4 ^ m) (hd : d ≤ 4) (hf : f ≤ 4) (ht : t ≤ 4) (hti : ti ≤ 9) (hft : f ≠ 0 → t ≠ 0) : f_X1_taken N (nI (4 ^ m + v)) (nI d) (nI f) (nI t) (nI ti) = some (nI (4 ^ (wrt d f t ti m v m).1 + (wrt d f t ti m v m).2)) := by
  unfold f_X1_taken
  rw [wI hN hm hv, Option.bind_some]
  exact tk_loop (fun z5_12 z7_12 => some z5_12) hm hv hd hf ht hti hft m N 0 (by omega) (by omega)
theorem mN_eq {w d : Nat} (hw : w < 4) (hd : d ≤ 4) : (nI w = mN d) = (w + 1 = d) := by
  unfold mN
  by_cases h : d = 0
  · rw [if_pos h, m9_n (by omega)]
    exact (eq_false (by omega)).symm
  · rw [if_neg h, eq_n (by omega) (by omega)]
    exact propext ⟨fun q => by omega, fun q => by omega⟩
theorem mN_0 : mN 0 = -9 := rfl
theorem mN_s {x : Nat} (h : x ≠ 0) : mN x = nI (x - 1) := by unfold mN; rw [if_neg h]
theorem mN_9 {x : Nat} (hx : x ≤ 9) : (mN x = (-9:Int32)) = (x = 0) := by
  by_cases h : x = 0
  · subst h; exact propext ⟨fun _ => rfl, fun _ => rfl⟩
  · rw [mN_s h, m9_n (by omega)]
    exact (eq_false h).symm
theorem wr_loop {N d f t ti m v : Nat} (kk : Int32 → Int32 → Option Int32) (hm : m ≤ 6) (hv : v < 4 ^ m) (hd : d ≤ 4) (hf : f ≤ 4) (ht : t ≤ 4) (hti : ti ≤ 9) (hft : f ≠ 0 → t ≠ 0) :
    ∀ (j n k : Nat), k + j = m → j < n → f_X6_written_6 N (nI (4096 * m + v)) (mN d) (mN f) (mN t) (nI ti) kk n (nI (4096 * (wrt d f t ti m v k).1 + (wrt d f t ti m v k).2)) (nI k) = kk (nI (4096 * (wrt d f t ti m v m).1 + (wrt d f t ti m v m).2)) (nI m) := by
  intro j
  induction j with
  | zero =>
    intro n k hk hn
    obtain ⟨n', rfl⟩ : ∃ n', n = n' + 1 := ⟨n - 1, by omega⟩
    have : k = m := by omega
    subst this
    rw [f_X6_written_6, wO hm hv, Option.bind_some, if_pos (by rw [le_n (by omega) (by omega)]; omega)]
  | succ j ih =>
    intro n k hk hn
    obtain ⟨n', rfl⟩ : ∃ n', n = n' + 1 := ⟨n - 1, by omega⟩
    have ok := wrt_ok (d := d) (ti := ti) (m := m) (v := v) ht hft k
    have hw := wd_lt m v k
    have step := ih n' (k + 1) (by omega) (by omega)
    rw [f_X6_written_6, wO hm hv, Option.bind_some, if_neg (by rw [le_n (by omega) (by omega)]; omega), mA hm hv (by omega), Option.bind_some, L1, add_n]
    simp only [mN_eq hw hd, mN_eq hw hf, le_n (a := k) (b := ti) (by omega) (by omega)]
    have tail : ¬ tired k ti = true → (if wd m v k + 1 = d then f_X6_written_6 N (nI (4096 * m + v)) (mN d) (mN f) (mN t) (nI ti) kk n' (nI (4096 * (wrt d f t ti m v k).1 + (wrt d f t ti m v k).2)) (nI (k + 1)) else if wd m v k + 1 = f then (f_X6_withWord N (nI (4096 * (wrt d f t ti m v k).1 + (wrt d f t ti m v k).2)) (mN t)).bind (fun x9 => f_X6_written_6 N (nI (4096 * m + v)) (mN d) (mN f) (mN t) (nI ti) kk n' x9 (nI (k + 1))) else (f_X6_withWord N (nI (4096 * (wrt d f t ti m v k).1 + (wrt d f t ti m v k).2)) (nI (wd m v k))).bind (fun x8 => f_X6_written_6 N (nI (4096 * m + v)) (mN d) (mN f) (mN t) (nI ti) kk n' x8 (nI (k + 1)))) = kk (nI (4096 * (wrt d f t ti m v m).1 + (wrt d f t ti m v m).2)) (nI m) := by
      intro h1
      by_cases h2 : wd m v k + 1 = d
      · rw [if_pos h2]
        rw [wrt, if_pos (Or.inr h2)] at step
        exact step
      · rw [if_neg h2]
        rw [wrt, if_neg (by rintro (q | q); exact h1 q; exact h2 q)] at step
        by_cases h3 : wd m v k + 1 = f
        · rw [if_pos h3, mN_s (hft (by omega)), mW (by omega) ok.2 (by omega), Option.bind_some]
          rw [if_pos h3] at step
          rw [mN_s (hft (by omega))] at step
          exact step
        · rw [if_neg h3, mW (by omega) ok.2 hw, Option.bind_some]
          rw [if_neg h3] at step
          exact step
    by_cases h0 : k ≤ ti
    · rw [if_pos h0]
      exact tail (by unfold tired; simp; omega)
    · rw [if_neg h0, sub_n (by omega), L2, rem_n (by omega) (by omega) (by omega)]
      simp only [eq_n (a := (k - ti) % 2) (b := 1) (by omega) (by omega)]
      by_cases h1 : (k - ti) % 2 = 1
      · rw [if_pos h1]
        rw [wrt, if_pos (Or.inl (by unfold tired; simp; omega))] at step
        exact step
      · rw [if_neg h1]
        exact tail (by unfold tired; simp; omega)
theorem wr {N d f t ti m v : Nat} (hN : 200000 ≤ N) (hm : m ≤ 6) (hv : v < 4 ^ m) (hd : d ≤ 4) (hf : f ≤ 4) (ht : t ≤ 4) (hti : ti ≤ 9) (hft : f ≠ 0 → t ≠ 0) : f_X6_written N (nI (4096 * m + v)) (mN d) (mN f) (mN t) (nI ti) = some (nI (4096 * (wrt d f t ti m v m).1 + (wrt d f t ti m v m).2)) := by
  unfold f_X6_written
  exact wr_loop (fun z5_6 z6_6 => some z5_6) hm hv hd hf ht hti hft m N 0 (by omega) (by omega)
/-- the clerks' habits, on each side -/
def HabB (n : Nat) (D F T I C : Nat → Nat) : Prop := n ≤ 4 ∧ ∀ c, c < n → D c ≤ 4 ∧ F c ≤ 4 ∧ T c ≤ 4 ∧ I c ≤ 9 ∧ C c ≤ c ∧ (F c ≠ 0 → T c ≠ 0)
def HabX (n : Nat) (D F T I C : Nat → Nat) (bd bf bt bi bc : Nat → Int32) : Prop := ∀ c, c < n → bd c = nI (D c) ∧ bf c = nI (F c) ∧ bt c = nI (T c) ∧ bi c = nI (I c) ∧ bc c = nI (C c)
def HabM (n : Nat) (D F T I C : Nat → Nat) (md mi mn : Nat → Int32) : Prop := ∀ c, c < n → md c = mN (D c) ∧ mi c = nI (I c) ∧ mn (1 + c) = mN (F c) ∧ mn (5 + c) = mN (T c) ∧ mn (9 + c) = mN (C c)
/-- the pages when c clerks have written -/
def pgl (D F T I C : Nat → Nat) (m v : Nat) : Nat → Nat → Nat × Nat
  | 0, _ => (0, 0)
  | c + 1, j => if j = c then (if C c = 0 then wrt (D c) (F c) (T c) (I c) m v m else wrt (D c) (F c) (T c) (I c) (pgl D F T I C m v c (C c - 1)).1 (pgl D F T I C m v c (C c - 1)).2 (pgl D F T I C m v c (C c - 1)).1) else pgl D F T I C m v c j
theorem pgl_0 {D F T I C : Nat → Nat} {m v c : Nat} (z : C c = 0) : pgl D F T I C m v (c + 1) c = wrt (D c) (F c) (T c) (I c) m v m := by
  show (if c = c then _ else _) = _
  rw [if_pos rfl, if_pos z]
theorem pgl_c {D F T I C : Nat → Nat} {m v c : Nat} (z : C c ≠ 0) : pgl D F T I C m v (c + 1) c = wrt (D c) (F c) (T c) (I c) (pgl D F T I C m v c (C c - 1)).1 (pgl D F T I C m v c (C c - 1)).2 (pgl D F T I C m v c (C c - 1)).1 := by
  show (if c = c then _ else _) = _
  rw [if_pos rfl, if_neg z]
theorem pgl_n {D F T I C : Nat → Nat} {m v c j : Nat} (h : j ≠ c) : pgl D F T I C m v (c + 1) j = pgl D F T I C m v c j := by
  show (if j = c then _ else _) = _
  rw [if_neg h]
theorem pgl_ok {n m v : Nat} {D F T I C : Nat → Nat} (hB : HabB n D F T I C) (hv : v < 4 ^ m) : ∀ c, c ≤ n → ∀ j, j < c → (pgl D F T I C m v c j).1 ≤ m ∧ (pgl D F T I C m v c j).2 < 4 ^ (pgl D F T I C m v c j).1 := by
  intro c
  induction c with
  | zero => intro _ j hj; omega
  | succ c ih =>
    intro hc j hj
    obtain ⟨h1, h2, h3, h4, h5, h6⟩ := hB.2 c (by omega)
    by_cases e : j = c
    · subst e
      by_cases e2 : C j = 0
      · rw [pgl_0 e2]
        exact wrt_ok h3 h6 m
      · rw [pgl_c e2]
        have q := ih (by omega) (C j - 1) (by omega)
        have r := wrt_ok (d := D j) (ti := I j) (m := (pgl D F T I C m v j (C j - 1)).1) (v := (pgl D F T I C m v j (C j - 1)).2) h3 h6 (pgl D F T I C m v j (C j - 1)).1
        exact ⟨by omega, r.2⟩
    · rw [pgl_n e]
      exact ih (by omega) j (by omega)
def PgX (D F T I C : Nat → Nat) (m v c : Nat) (P : Nat → Int32) : Prop := ∀ j, j < c → P j = nI (4 ^ (pgl D F T I C m v c j).1 + (pgl D F T I C m v c j).2)
def PgM (D F T I C : Nat → Nat) (m v c : Nat) (P : Nat → Int32) : Prop := ∀ j, j < c → P j = nI (4096 * (pgl D F T I C m v c j).1 + (pgl D F T I C m v c j).2)
theorem up_s {f : Nat → Int32} {k : Nat} {x : Int32} : upd f k x k = x := pk_us
theorem up_n {f : Nat → Int32} {k j : Nat} {x : Int32} (h : j ≠ k) : upd f k x j = f j := pk_un h
theorem pF {N n c m v : Nat} {D F T I C : Nat → Nat} {bd bf bt bi bc : Nat → Int32} (hN : 200000 ≤ N) (hB : HabB n D F T I C) (hX : HabX n D F T I C bd bf bt bi bc) (hc : c < n) (hm : m ≤ 6) (hv : v < 4 ^ m) : f_X1_pageFrom N (nI c) (nI (4 ^ m + v)) bd bf bt bi = some (nI (4 ^ (wrt (D c) (F c) (T c) (I c) m v m).1 + (wrt (D c) (F c) (T c) (I c) m v m).2)) := by
  obtain ⟨h1, h2, h3, h4, h5, h6⟩ := hB.2 c hc
  obtain ⟨e1, e2, e3, e4, e5⟩ := hX c hc
  have hn := hB.1
  unfold f_X1_pageFrom
  rw [gI_n (by omega) (by omega), gI_n (by omega) (by omega), gI_n (by omega) (by omega), gI_n (by omega) (by omega), cl_n (by omega), e1, e2, e3, e4, tk hN hm hv h1 h2 h3 h4 h6]
  rfl
theorem tD1 {N n c m v : Nat} {D F T I C : Nat → Nat} {bd bf bt bi bc P : Nat → Int32} (hN : 200000 ≤ N) (hB : HabB n D F T I C) (hX : HabX n D F T I C bd bf bt bi bc) (hc : c < n) (hm : m ≤ 6) (hv : v < 4 ^ m) (hP : PgX D F T I C m v c P) : ∃ P', f_X1_takeDownBy N (nI c) (nI (4 ^ m + v)) bd bf bt bi bc P = some P' ∧ PgX D F T I C m v (c + 1) P' ∧ ∀ j, j ≠ c → P' j = P j := by
  obtain ⟨h1, h2, h3, h4, h5, h6⟩ := hB.2 c hc
  obtain ⟨e1, e2, e3, e4, e5⟩ := hX c hc
  have hn := hB.1
  have ok := pgl_ok hB hv c (by omega)
  unfold f_X1_takeDownBy
  rw [gI_n (by omega) (by omega), cl_n (by omega), e5]
  have fin : ∀ (x : Int32), x = nI (4 ^ (pgl D F T I C m v (c + 1) c).1 + (pgl D F T I C m v (c + 1) c).2) → PgX D F T I C m v (c + 1) (upd P c x) := by
    intro x hx j hj
    by_cases e : j = c
    · subst e; rw [up_s, hx]
    · rw [up_n e, hP j (by omega)]
      rw [pgl_n e]
  have oth : ∀ (x : Int32) (j : Nat), j ≠ c → upd P c x j = P j := fun x j h => up_n h
  by_cases z : C c = 0
  · rw [z, if_pos (by decide), pF hN hB hX hc hm hv, Option.bind_some, gI_n (by omega) (by omega)]
    refine ⟨_, rfl, fin _ ?_, oth _⟩
    rw [pgl_0 z]
  · have q := ok (C c - 1) (by omega)
    rw [L1, sub_n (by omega), if_neg (by rw [L0, lt_n (by omega) (by omega)]; omega), if_neg (by rw [le_n (by omega) (by omega)]; omega), gI_n (by omega) (by omega), cl_n (by omega), hP (C c - 1) (by omega), pF hN hB hX hc (by omega) q.2, Option.bind_some, gI_n (by omega) (by omega)]
    refine ⟨_, rfl, fin _ ?_, oth _⟩
    rw [pgl_c z]
theorem tD_loop {N n m v : Nat} {D F T I C : Nat → Nat} {bd bf bt bi bc : Nat → Int32} (kk : Int32 → (Nat → Int32) → Option (Nat → Int32)) (hN : 200000 ≤ N) (hB : HabB n D F T I C) (hX : HabX n D F T I C bd bf bt bi bc) (hm : m ≤ 6) (hv : v < 4 ^ m) :
    ∀ (j g c : Nat) (P : Nat → Int32), c + j = n → j < g → PgX D F T I C m v c P → ∃ P', f_X1_takeDown_2 N (nI (4 ^ m + v)) (nI n) bd bf bt bi bc kk g (nI c) P = kk (nI n) P' ∧ PgX D F T I C m v n P' := by
  have hn := hB.1
  intro j
  induction j with
  | zero =>
    intro g c P hc hg hP
    obtain ⟨g', rfl⟩ : ∃ g', g = g' + 1 := ⟨g - 1, by omega⟩
    have : c = n := by omega
    subst this
    exact ⟨P, by rw [f_X1_takeDown_2, if_pos (by rw [le_n (by omega) (by omega)]; omega)], hP⟩
  | succ j ih =>
    intro g c P hc hg hP
    obtain ⟨g', rfl⟩ : ∃ g', g = g' + 1 := ⟨g - 1, by omega⟩
    obtain ⟨P1, h1, h2, -⟩ := tD1 hN hB hX (by omega) hm hv hP
    obtain ⟨P2, h3, h4⟩ := ih g' (c + 1) P1 (by omega) (by omega) h2
    exact ⟨P2, by rw [f_X1_takeDown_2, if_neg (by rw [le_n (by omega) (by omega)]; omega), h1, Option.bind_some, L1, add_n, h3], h4⟩
theorem tD {N n m v : Nat} {D F T I C : Nat → Nat} {bd bf bt bi bc : Nat → Int32} (P : Nat → Int32) (hN : 200000 ≤ N) (hB : HabB n D F T I C) (hX : HabX n D F T I C bd bf bt bi bc) (hm : m ≤ 6) (hv : v < 4 ^ m) : ∃ P', f_X1_takeDown N (nI (4 ^ m + v)) (nI n) bd bf bt bi bc P = some P' ∧ PgX D F T I C m v n P' := by
  have hn := hB.1
  unfold f_X1_takeDown
  exact tD_loop (fun z2_2 zvt_pages_2 => some zvt_pages_2) hN hB hX hm hv n N 0 P (by omega) (by omega) (fun j hj => by omega)
/-- reformed: the clerk whose number is r writes nothing for another word -/
def Fr (F : Nat → Nat) (r : Int32) : Nat → Nat := fun c => if nI c = r then 0 else F c
theorem HabB_r {n : Nat} {D F T I C : Nat → Nat} (hB : HabB n D F T I C) (r : Int32) : HabB n D (Fr F r) T I C := by
  refine ⟨hB.1, fun c hc => ?_⟩
  obtain ⟨h1, h2, h3, h4, h5, h6⟩ := hB.2 c hc
  unfold Fr
  by_cases e : nI c = r
  · rw [if_pos e]; exact ⟨h1, by omega, h3, h4, h5, fun q => absurd rfl q⟩
  · rw [if_neg e]; exact ⟨h1, h2, h3, h4, h5, h6⟩
theorem lP_loop {N n m v : Nat} {D F T I C : Nat → Nat} {md mi mn : Nat → Int32} (r : Int32) (kk : Int32 → (Nat → Int32) → Option (Nat → Int32)) (hN : 200000 ≤ N) (hB : HabB n D F T I C) (hM : HabM n D F T I C md mi mn) (hm : m ≤ 6) (hv : v < 4 ^ m) :
    ∀ (j g c : Nat) (P : Nat → Int32), c + j = n → j < g → PgM D (Fr F r) T I C m v c P → ∃ P', f_X6_layPages_2 N (nI (4096 * m + v)) r (nI n) md mi mn kk g (nI c) P = kk (nI n) P' ∧ PgM D (Fr F r) T I C m v n P' := by
  have hn := hB.1
  intro j
  induction j with
  | zero =>
    intro g c P hc hg hP
    obtain ⟨g', rfl⟩ : ∃ g', g = g' + 1 := ⟨g - 1, by omega⟩
    have : c = n := by omega
    subst this
    exact ⟨P, by rw [f_X6_layPages_2, if_pos (by rw [le_n (by omega) (by omega)]; omega)], hP⟩
  | succ j ih =>
    intro g c P hc hg hP
    obtain ⟨g', rfl⟩ : ∃ g', g = g' + 1 := ⟨g - 1, by omega⟩
    have hBr := HabB_r hB r
    obtain ⟨h1, h2, h3, h4, h5, h6⟩ := hB.2 c (by omega)
    obtain ⟨e1, e2, e3, e4, e5⟩ := hM c (by omega)
    have ok := pgl_ok hBr hv c (by omega)
    have fin : ∀ (x : Int32), x = nI (4096 * (pgl D (Fr F r) T I C m v (c + 1) c).1 + (pgl D (Fr F r) T I C m v (c + 1) c).2) → PgM D (Fr F r) T I C m v (c + 1) (upd P c x) := by
      intro x hx j hj
      by_cases e : j = c
      · subst e; rw [up_s, hx]
      · rw [up_n e, hP j (by omega)]
        rw [pgl_n e]
    have go : ∀ x : Int32, x = nI (4096 * (pgl D (Fr F r) T I C m v (c + 1) c).1 + (pgl D (Fr F r) T I C m v (c + 1) c).2) → ∃ P', f_X6_layPages_2 N (nI (4096 * m + v)) r (nI n) md mi mn kk g' (nI (c + 1)) (upd P c x) = kk (nI n) P' ∧ PgM D (Fr F r) T I C m v n P' := fun x hx => ih g' (c + 1) (upd P c x) (by omega) (by omega) (fin x hx)
    rw [f_X6_layPages_2, if_neg (by rw [le_n (by omega) (by omega)]; omega), A9, gI_n (by omega) (by omega), cl_n (by omega), e5, A5, A1, A1r, cl_n (by omega), cl_n (by omega), cl_n (by omega), e3, e4, e1, e2]
    simp only [mN_9 (x := C c) (by omega)]
    by_cases z : C c = 0
    · rw [if_pos z, gI_n (by omega) (by omega)]
      by_cases y : nI c = r
      · rw [if_pos y, gI_n (by omega) (by omega), gI_n (by omega) (by omega), ← mN_0, wr hN hm hv h1 (by omega) h3 h4 (fun q => absurd rfl q), Option.bind_some, gI_n (by omega) (by omega)]
        refine go _ ?_
        have : Fr F r c = 0 := by unfold Fr; rw [if_pos y]
        rw [pgl_0 z, this]
      · rw [if_neg y, gI_n (by omega) (by omega), gI_n (by omega) (by omega), gI_n (by omega) (by omega), wr hN hm hv h1 h2 h3 h4 h6, Option.bind_some, gI_n (by omega) (by omega)]
        refine go _ ?_
        have : Fr F r c = F c := by unfold Fr; rw [if_neg y]
        rw [pgl_0 z, this]
    · have q := ok (C c - 1) (by omega)
      rw [if_neg z, gI_n (by omega) (by omega), mN_s z, gI_n (by omega) (by omega), gI_n (by omega) (by omega), cl_n (by omega), hP (C c - 1) (by omega)]
      by_cases y : nI c = r
      · rw [if_pos y, gI_n (by omega) (by omega), gI_n (by omega) (by omega), ← mN_0, wr hN (by omega) q.2 h1 (by omega) h3 h4 (fun q => absurd rfl q), Option.bind_some, gI_n (by omega) (by omega)]
        refine go _ ?_
        have : Fr F r c = 0 := by unfold Fr; rw [if_pos y]
        rw [pgl_c z, this]
      · rw [if_neg y, gI_n (by omega) (by omega), gI_n (by omega) (by omega), gI_n (by omega) (by omega), wr hN (by omega) q.2 h1 h2 h3 h4 h6, Option.bind_some, gI_n (by omega) (by omega)]
        refine go _ ?_
        have : Fr F r c = F c := by unfold Fr; rw [if_neg y]
        rw [pgl_c z, this]
theorem lP {N n m v : Nat} {D F T I C : Nat → Nat} {md mi mn : Nat → Int32} (r : Int32) (P : Nat → Int32) (hN : 200000 ≤ N) (hB : HabB n D F T I C) (hM : HabM n D F T I C md mi mn) (hm : m ≤ 6) (hv : v < 4 ^ m) : ∃ P', f_X6_layPages N (nI (4096 * m + v)) r (nI n) md mi mn P = some P' ∧ PgM D (Fr F r) T I C m v n P' := by
  have hn := hB.1
  unfold f_X6_layPages
  exact lP_loop r (fun z3_2 zvt_pages_2 => some zvt_pages_2) hN hB hM hm hv n N 0 P (by omega) (by omega) (fun j hj => by omega)
theorem pgl_cong {n m v : Nat} {D F F' T I C : Nat → Nat} (h : ∀ c, c < n → F c = F' c) : ∀ c, c ≤ n → ∀ j, pgl D F T I C m v c j = pgl D F' T I C m v c j := by
  intro c
  induction c with
  | zero => intro _ j; rfl
  | succ c ih =>
    intro hc j
    show (if j = c then _ else _) = (if j = c then _ else _)
    rw [h c (by omega), ih (by omega) (C c - 1), ih (by omega) j]
theorem Fr_9 {n : Nat} {F : Nat → Nat} (hn : n ≤ 4) : ∀ c, c < n → Fr F (-9) c = F c := by
  intro c hc
  unfold Fr
  rw [if_neg]
  rw [m9_n (by omega)]
  exact id
theorem lP9 {N n m v : Nat} {D F T I C : Nat → Nat} {md mi mn : Nat → Int32} (P : Nat → Int32) (hN : 200000 ≤ N) (hB : HabB n D F T I C) (hM : HabM n D F T I C md mi mn) (hm : m ≤ 6) (hv : v < 4 ^ m) : ∃ P', f_X6_layPages N (nI (4096 * m + v)) (-9) (nI n) md mi mn P = some P' ∧ PgM D F T I C m v n P' := by
  obtain ⟨P', h1, h2⟩ := lP (-9) P hN hB hM hm hv
  exact ⟨P', h1, fun j hj => by rw [h2 j hj, pgl_cong (Fr_9 hB.1) n (Nat.le_refl n) j]⟩
