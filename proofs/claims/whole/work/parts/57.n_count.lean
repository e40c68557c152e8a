/-! counts of words, bits of told pages, days -/
def smw (f : Nat → Nat × Nat) : Nat → Nat
  | 0 => 0
  | c + 1 => smw f c + (f c).1
theorem wop_loop {N n m v : Nat} {D F T I C : Nat → Nat} {P : Nat → Int32} (hN : 200000 ≤ N) (hB : HabB n D F T I C) (hm : m ≤ 6) (hv : v < 4 ^ m) (hP : PgX D F T I C m v n P) (kk : Int32 → Int32 → Option Int32) : ∀ (j g c : Nat), c + j = n → j < g → f_X1_wordsOnPages_4 N (nI n) P kk g (nI (smw (pgl D F T I C m v n) c)) (nI c) = kk (nI (smw (pgl D F T I C m v n) n)) (nI n) := by
  have hn := hB.1
  intro j
  induction j with
  | zero =>
    intro g c hc hg
    obtain ⟨g', rfl⟩ : ∃ g', g = g' + 1 := ⟨g - 1, by omega⟩
    have : c = n := by omega
    subst this
    rw [f_X1_wordsOnPages_4, if_pos (by rw [le_n (by omega) (by omega)]; omega)]
  | succ j ih =>
    intro g c hc hg
    obtain ⟨g', rfl⟩ : ∃ g', g = g' + 1 := ⟨g - 1, by omega⟩
    have ok := pgl_ok hB hv n (Nat.le_refl n) c (by omega)
    rw [f_X1_wordsOnPages_4, if_neg (by rw [le_n (by omega) (by omega)]; omega), gI_n (by omega) (by omega), cl_n (by omega), hP c (by omega), wI hN (by omega) ok.2, Option.bind_some, add_n, A1r]
    exact ih g' (c + 1) (by omega) (by omega)
theorem wop {N n m v : Nat} {D F T I C : Nat → Nat} {P : Nat → Int32} (hN : 200000 ≤ N) (hB : HabB n D F T I C) (hm : m ≤ 6) (hv : v < 4 ^ m) (hP : PgX D F T I C m v n P) : f_X1_wordsOnPages N (nI n) P = some (nI (smw (pgl D F T I C m v n) n)) := by
  have hn := hB.1
  unfold f_X1_wordsOnPages
  exact wop_loop hN hB hm hv hP (fun z1_4 z2_4 => some z1_4) n N 0 (by omega) (by omega)
theorem aw_loop {N n m v : Nat} {D F T I C : Nat → Nat} {P : Nat → Int32} (hB : HabB n D F T I C) (hm : m ≤ 6) (hv : v < 4 ^ m) (hP : PgM D F T I C m v n P) (kk : Int32 → Int32 → Option Int32) : ∀ (j g c : Nat), c + j = n → j < g → f_X6_allWords_4 N (nI n) P kk g (nI (smw (pgl D F T I C m v n) c)) (nI c) = kk (nI (smw (pgl D F T I C m v n) n)) (nI n) := by
  have hn := hB.1
  intro j
  induction j with
  | zero =>
    intro g c hc hg
    obtain ⟨g', rfl⟩ : ∃ g', g = g' + 1 := ⟨g - 1, by omega⟩
    have : c = n := by omega
    subst this
    rw [f_X6_allWords_4, if_pos (by rw [le_n (by omega) (by omega)]; omega)]
  | succ j ih =>
    intro g c hc hg
    obtain ⟨g', rfl⟩ : ∃ g', g = g' + 1 := ⟨g - 1, by omega⟩
    have ok := pgl_ok hB hv n (Nat.le_refl n) c (by omega)
    rw [f_X6_allWords_4, if_neg (by rw [le_n (by omega) (by omega)]; omega), gI_n (by omega) (by omega), cl_n (by omega), hP c (by omega), wO (by omega) ok.2, Option.bind_some, add_n, A1r]
    exact ih g' (c + 1) (by omega) (by omega)
theorem aw {N n m v : Nat} {D F T I C : Nat → Nat} {P : Nat → Int32} (hN : 200000 ≤ N) (hB : HabB n D F T I C) (hm : m ≤ 6) (hv : v < 4 ^ m) (hP : PgM D F T I C m v n P) : f_X6_allWords N (nI n) P = some (nI (smw (pgl D F T I C m v n) n)) := by
  have hn := hB.1
  unfold f_X6_allWords
  exact aw_loop hB hm hv hP (fun z1_4 z2_4 => some z1_4) n N 0 (by omega) (by omega)
theorem or1 : ∀ c, c < 5 → ∀ a, a < 32 → a / 2 ^ c % 2 = 0 → nI a ||| ((1:Int32) <<< (nI c &&& 31)) = nI (a + 2 ^ c) := by decide +kernel
def bts (t : Nat → Option (Nat × Nat)) : Nat → Nat
  | 0 => 0
  | c + 1 => bts t c + (if t c = none then 0 else 2 ^ c)
theorem bts_lt (t : Nat → Option (Nat × Nat)) : ∀ c, bts t c < 2 ^ c := by
  intro c
  induction c with
  | zero => exact Nat.zero_lt_one
  | succ c ih => unfold bts; rw [Nat.pow_succ]; split <;> omega
theorem or2 {a c : Nat} (hc : c < 4) (ha : a < 2 ^ c) : nI a ||| ((1:Int32) <<< (nI c &&& 31)) = nI (a + 2 ^ c) := by
  have : 2 ^ c ≤ 2 ^ 3 := Nat.pow_le_pow_right (by decide) (by omega)
  exact or1 c (by omega) a (by omega) (by rw [Nat.div_eq_of_lt ha])
theorem soT_loop {N n : Nat} {t : Nat → Option (Nat × Nat)} {to mt : Nat → Int32} (hn : n ≤ 4) (h : ToldR n t to mt) (kk : Int32 → Int32 → Option Int32) : ∀ (j g c : Nat), c + j = n → j < g → f_X5_setOfTold_4 N (nI n) to kk g (nI (bts t c)) (nI c) = kk (nI (bts t n)) (nI n) := by
  intro j
  induction j with
  | zero =>
    intro g c hc hg
    obtain ⟨g', rfl⟩ : ∃ g', g = g' + 1 := ⟨g - 1, by omega⟩
    have : c = n := by omega
    subst this
    rw [f_X5_setOfTold_4, if_pos (by rw [le_n (by omega) (by omega)]; omega)]
  | succ j ih =>
    intro g c hc hg
    obtain ⟨g', rfl⟩ : ∃ g', g = g' + 1 := ⟨g - 1, by omega⟩
    have step := ih g' (c + 1) (by omega) (by omega)
    rw [show bts t (c + 1) = bts t c + (if t c = none then 0 else 2 ^ c) from rfl] at step
    rw [f_X5_setOfTold_4, if_neg (by rw [le_n (by omega) (by omega)]; omega), gI_n (by omega) (by omega), cl_n (by omega), A1r]
    rcases h c (by omega) with ⟨t0, t1, -⟩ | ⟨a, b, t0, t1, t2, t3, -⟩
    · rw [if_pos t1]
      rw [if_pos t0] at step
      exact step
    · have hp := p4_le t1
      have hq := p4_pos a
      rw [if_neg (show ¬ to c = 0 by rw [t3]; exact nI_ne0 (by omega) (by omega)), or2 (by omega) (bts_lt t c)]
      rw [if_neg (by rw [t0]; simp)] at step
      exact step
theorem co_loop {N n : Nat} {t : Nat → Option (Nat × Nat)} {to mt : Nat → Int32} (hn : n ≤ 4) (h : ToldR n t to mt) (kk : Int32 → Int32 → Option (Int32 × (Nat → Int32))) : ∀ (j g c : Nat), c + j = n → j < g → f_X6_count_4 N (nI n) mt kk g (nI (bts t c)) (nI c) = kk (nI (bts t n)) (nI n) := by
  intro j
  induction j with
  | zero =>
    intro g c hc hg
    obtain ⟨g', rfl⟩ : ∃ g', g = g' + 1 := ⟨g - 1, by omega⟩
    have : c = n := by omega
    subst this
    rw [f_X6_count_4, if_pos (by rw [le_n (by omega) (by omega)]; omega)]
  | succ j ih =>
    intro g c hc hg
    obtain ⟨g', rfl⟩ : ∃ g', g = g' + 1 := ⟨g - 1, by omega⟩
    have step := ih g' (c + 1) (by omega) (by omega)
    rw [show bts t (c + 1) = bts t c + (if t c = none then 0 else 2 ^ c) from rfl] at step
    rw [f_X6_count_4, if_neg (by rw [le_n (by omega) (by omega)]; omega), gI_n (by omega) (by omega), cl_n (by omega), A1r]
    rcases h c (by omega) with ⟨t0, -, t1⟩ | ⟨a, b, t0, t1, t2, -, t3⟩
    · rw [if_pos t1, Int32.or_zero]
      rw [if_pos t0] at step
      exact step
    · have hp := p4_le t1
      rw [if_neg (show ¬ mt c = -9 by rw [t3, m9_n (by omega)]; exact id), or2 (by omega) (bts_lt t c)]
      rw [if_neg (by rw [t0]; simp)] at step
      exact step
/-- trials by a seed -/
def nxt (s : Int64) : Int64 := (s * (6364136223846793005:Int64)) + (1442695040888963407:Int64)
def qs (s : Int64) : Nat := s.toBitVec.toNat / 2 ^ 33 % 4
def its (s : Int64) : Nat → Int64
  | 0 => s
  | k + 1 => nxt (its s k)
def rvs (s : Int64) : Nat → Nat
  | 0 => 0
  | k + 1 => 4 * rvs s k + qs (its s (k + 1))
theorem rvs_lt (s : Int64) : ∀ k, rvs s k < 4 ^ k := by
  intro k
  induction k with
  | zero => exact Nat.zero_lt_one
  | succ k ih =>
    have : qs (its s (k + 1)) < 4 := Nat.mod_lt _ (by decide)
    unfold rvs; rw [Nat.pow_succ]; omega
theorem qsX (x : Int64) : (x.toUInt64 >>> ((33:Int32).toInt64.toUInt64 &&& Int64.toUInt64 63)).toInt64.toInt32 - (x.toUInt64 >>> ((33:Int32).toInt64.toUInt64 &&& Int64.toUInt64 63)).toInt64.toInt32 / (4:Int32) * (4:Int32) = nI (qs x) := by
  obtain ⟨y, hy, rfl⟩ := wb_of x
  rw [show (33:Int32) = nI 33 from rfl, wb_shr hy (by decide), lN_i, L4, rem_n (by omega) (by omega) (by omega)]
  unfold qs
  rw [wb_tn hy]
theorem qsM (x : Int64) : ((x.toUInt64 >>> ((33:Int32).toInt64.toUInt64 &&& Int64.toUInt64 63)).toInt64 - (x.toUInt64 >>> ((33:Int32).toInt64.toUInt64 &&& Int64.toUInt64 63)).toInt64 / (4:Int64) * (4:Int64)).toInt32 = nI (qs x) := by
  obtain ⟨y, hy, rfl⟩ := wb_of x
  rw [show (33:Int32) = nI 33 from rfl, wb_shr hy (by decide), show (4:Int64) = lN 4 from rfl, pk_lRem (by omega) (by omega) (by omega), lN_i]
  unfold qs
  rw [wb_tn hy]
theorem qs_lt (s : Int64) : qs s < 4 := Nat.mod_lt _ (by decide)
theorem its_s (s : Int64) (k : Nat) : (its s k * (6364136223846793005:Int64)) + (1442695040888963407:Int64) = its s (k + 1) := rfl
theorem tbs_loop {N l : Nat} {s : Int64} (hl : l ≤ 6) (kk : Int32 → Int32 → Int64 → Option (Int32 × Int64)) : ∀ (j g k : Nat), k + j = l → j < g → f_X5_trialBySeed_4 N (nI l) kk g (nI (4 ^ k + rvs s k)) (nI k) (its s k) = kk (nI (4 ^ l + rvs s l)) (nI l) (its s l) := by
  intro j
  induction j with
  | zero =>
    intro g k hk hg
    obtain ⟨g', rfl⟩ : ∃ g', g = g' + 1 := ⟨g - 1, by omega⟩
    have : k = l := by omega
    subst this
    rw [f_X5_trialBySeed_4, if_pos (by rw [le_n (by omega) (by omega)]; omega)]
  | succ j ih =>
    intro g k hk hg
    obtain ⟨g', rfl⟩ : ∃ g', g = g' + 1 := ⟨g - 1, by omega⟩
    rw [f_X5_trialBySeed_4, if_neg (by rw [le_n (by omega) (by omega)]; omega), qsX, its_s, wW (by omega) (rvs_lt s k) (qs_lt _), Option.bind_some, A1r]
    exact ih g' (k + 1) (by omega) (by omega)
theorem tbs {N l : Nat} (s : Int64) (hN : 200000 ≤ N) (hl : l ≤ 6) : f_X5_trialBySeed N (nI l) s = some (nI (4 ^ l + rvs s l), its s l) := by
  unfold f_X5_trialBySeed
  exact tbs_loop (s := s) hl (fun z2_4 z3_4 zvt_nowSeed_4 => some (z2_4, zvt_nowSeed_4)) l N 0 (by omega) (by omega)
theorem dm_loop {N l : Nat} {s : Int64} (hl : l ≤ 6) (kk : Int32 → Int32 → Int64 → Option (Int32 × Int64 × (Nat → Int32))) : ∀ (j g k : Nat), k + j = l → j < g → f_X6_days_44 N (nI l) kk g (nI (4096 * k + rvs s k)) (nI k) (its s k) = kk (nI (4096 * l + rvs s l)) (nI l) (its s l) := by
  intro j
  induction j with
  | zero =>
    intro g k hk hg
    obtain ⟨g', rfl⟩ : ∃ g', g = g' + 1 := ⟨g - 1, by omega⟩
    have : k = l := by omega
    subst this
    rw [f_X6_days_44, if_pos (by rw [le_n (by omega) (by omega)]; omega)]
  | succ j ih =>
    intro g k hk hg
    obtain ⟨g', rfl⟩ : ∃ g', g = g' + 1 := ⟨g - 1, by omega⟩
    rw [f_X6_days_44, if_neg (by rw [le_n (by omega) (by omega)]; omega), qsM, its_s, mW (by omega) (rvs_lt s k) (qs_lt _), Option.bind_some, A1r]
    exact ih g' (k + 1) (by omega) (by omega)
def dsd (l : Nat) (s : Int64) : Nat → Int64
  | 0 => s
  | d + 1 => its (dsd l s d) l
def dtot (n : Nat) (D F T I C : Nat → Nat) (l : Nat) (s : Int64) : Nat → Nat
  | 0 => 0
  | d + 1 => dtot n D F T I C l s d + smw (pgl D F T I C l (rvs (dsd l s d) l) n) n
theorem dyX_loop {N n l q : Nat} {D F T I C : Nat → Nat} {bd bf bt bi bc : Nat → Int32} {s : Int64} (hN : 200000 ≤ N) (hB : HabB n D F T I C) (hX : HabX n D F T I C bd bf bt bi bc) (hl : l ≤ 6) (hq : q ≤ 30) (kk : Int32 → Int32 → Int64 → (Nat → Int32) → Option (Int32 × Int64 × (Nat → Int32))) : ∀ (j g d : Nat) (P : Nat → Int32), d + j = q → j < g → ∃ P', f_X5_days_30 N (nI q) (nI l) (nI n) bd bf bt bi bc kk g (nI (dtot n D F T I C l s d)) (nI d) (dsd l s d) P = kk (nI (dtot n D F T I C l s q)) (nI q) (dsd l s q) P' := by
  intro j
  induction j with
  | zero =>
    intro g d P hd hg
    obtain ⟨g', rfl⟩ : ∃ g', g = g' + 1 := ⟨g - 1, by omega⟩
    have : d = q := by omega
    subst this
    exact ⟨P, by rw [f_X5_days_30, if_pos (by rw [le_n (by omega) (by omega)]; omega)]⟩
  | succ j ih =>
    intro g d P hd hg
    obtain ⟨g', rfl⟩ : ∃ g', g = g' + 1 := ⟨g - 1, by omega⟩
    obtain ⟨P1, h1, h2⟩ := tD P hN hB hX hl (rvs_lt (dsd l s d) l)
    obtain ⟨P2, h3⟩ := ih g' (d + 1) P1 (by omega) (by omega)
    refine ⟨P2, ?_⟩
    rw [f_X5_days_30, if_neg (by rw [le_n (by omega) (by omega)]; omega), tbs _ hN hl, Option.bind_some]
    dsimp only
    rw [h1, Option.bind_some, wop hN hB hl (rvs_lt _ l) h2, Option.bind_some, add_n, A1r]
    exact h3
theorem dyM_loop {N n l q : Nat} {D F T I C : Nat → Nat} {md mi mn : Nat → Int32} {s : Int64} (hN : 200000 ≤ N) (hB : HabB n D F T I C) (hM : HabM n D F T I C md mi mn) (hl : l ≤ 6) (hq : q ≤ 30) (kk : Int32 → Int32 → Int64 → (Nat → Int32) → Option (Int32 × Int64 × (Nat → Int32))) : ∀ (j g d : Nat) (P : Nat → Int32), d + j = q → j < g → ∃ P', f_X6_days_32 N (nI q) (nI l) (nI n) md mi mn kk g (nI (dtot n D F T I C l s d)) (nI d) (dsd l s d) P = kk (nI (dtot n D F T I C l s q)) (nI q) (dsd l s q) P' := by
  intro j
  induction j with
  | zero =>
    intro g d P hd hg
    obtain ⟨g', rfl⟩ : ∃ g', g = g' + 1 := ⟨g - 1, by omega⟩
    have : d = q := by omega
    subst this
    exact ⟨P, by rw [f_X6_days_32, if_pos (by rw [le_n (by omega) (by omega)]; omega)]⟩
  | succ j ih =>
    intro g d P hd hg
    obtain ⟨g', rfl⟩ : ∃ g', g = g' + 1 := ⟨g - 1, by omega⟩
    obtain ⟨P1, h1, h2⟩ := lP9 P hN hB hM hl (rvs_lt (dsd l s d) l)
    obtain ⟨P2, h3⟩ := ih g' (d + 1) P1 (by omega) (by omega)
    refine ⟨P2, ?_⟩
    rw [f_X6_days_32, if_neg (by rw [le_n (by omega) (by omega)]; omega)]
    have e := dm_loop (N := N) (s := dsd l s d) hl (fun z5_44 z6_44 zvt_seed_44 => (f_X6_layPages N z5_44 (-9:Int32) (nI n) md mi mn P).bind (fun x6 => (f_X6_allWords N (nI n) x6).bind (fun x7 => f_X6_days_32 N (nI q) (nI l) (nI n) md mi mn kk g' (nI (dtot n D F T I C l s d) + x7) (nI d + (1:Int32)) zvt_seed_44 x6))) l N 0 (by omega) (by omega)
    refine Eq.trans e ?_
    rw [h1, Option.bind_some, aw hN hB hl (rvs_lt _ l) h2, Option.bind_some, add_n, A1r]
    exact h3
