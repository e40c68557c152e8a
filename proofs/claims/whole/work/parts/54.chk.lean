/-! how an argument is looked at, on both sides -/
theorem in_b (N : Nat) (a : Int32) (b c : Int64) (lo hi : Int) (hb : b.toInt = lo) (hc : c.toInt = hi) : f_X6_in N a.toInt64 b c = some (if lo ≤ a.toInt ∧ a.toInt ≤ hi then 1 else 0) := by rw [in_I, hb, hc]
theorem a_cases (a : Int32) (k : Nat) (hk : k < 2147483648) : (a < 0 ∧ a.toInt < 0) ∨ (¬ a < 0 ∧ nI k ≤ a ∧ (k : Int) ≤ a.toInt) ∨ ∃ j, j < k ∧ a = nI j := by
  rcases pk_ix a hk with h | h | ⟨j, hj, e⟩
  · left
    have h2 := Int32.lt_iff_toInt_lt.mp h
    rw [Int32.toInt_zero] at h2
    exact ⟨h, h2⟩
  · right; left
    have h2 := Int32.le_iff_toInt_le.mp h
    rw [nI_toInt hk] at h2
    refine ⟨fun q => ?_, h, h2⟩
    have h3 := Int32.lt_iff_toInt_lt.mp q
    rw [Int32.toInt_zero] at h3
    omega
  · right; right
    exact ⟨j, hj, e⟩
theorem chkW (N : Nat) (a : Int32) : (f_X5_isWord N a = some 0 ∧ f_X6_in N a.toInt64 0 3 = some 0) ∨ ∃ w, w < 4 ∧ a = nI w ∧ f_X5_isWord N a = some 1 ∧ f_X6_in N a.toInt64 0 3 = some 1 := by
  unfold f_X5_isWord
  rw [in_b N a 0 3 0 3 (by decide) (by decide)]
  rcases a_cases a 4 (by decide) with ⟨h, h2⟩ | ⟨h1, h, h2⟩ | ⟨j, hj, rfl⟩
  · left
    exact ⟨by rw [if_pos h], by rw [if_neg (by omega)]⟩
  · left
    exact ⟨by rw [if_neg h1, if_pos (show (4:Int32) ≤ a from h)], by rw [if_neg (by omega)]⟩
  · right
    refine ⟨j, hj, rfl, ?_, ?_⟩
    · rw [if_neg (nI_pos (by omega)), if_neg (by rw [L4, le_n (by omega) (by omega)]; omega)]
    · rw [nI_toInt (by omega), if_pos (by omega)]
theorem chkL (N lo : Nat) (hlo : lo ≤ 1) (b : Int64) (hb : b.toInt = lo) (a : Int32) : (f_X5_isLength N a (nI lo) = some 0 ∧ f_X6_in N a.toInt64 b 5 = some 0) ∨ ∃ n, lo ≤ n ∧ n ≤ 5 ∧ a = nI n ∧ f_X5_isLength N a (nI lo) = some 1 ∧ f_X6_in N a.toInt64 b 5 = some 1 := by
  unfold f_X5_isLength
  rw [in_b N a b 5 lo 5 hb (by decide)]
  rcases a_cases a 6 (by decide) with ⟨h, h2⟩ | ⟨h1, h, h2⟩ | ⟨j, hj, rfl⟩
  · left
    refine ⟨by rw [if_pos]; rw [Int32.lt_iff_toInt_lt, nI_toInt (by omega)]; omega, by rw [if_neg (by omega)]⟩
  · left
    have g1 : ¬ a < nI lo := by rw [Int32.lt_iff_toInt_lt, nI_toInt (by omega)]; omega
    have g2 : (5:Int32) < a := by rw [Int32.lt_iff_toInt_lt, show ((5:Int32)).toInt = 5 from by decide]; omega
    exact ⟨by rw [if_neg g1, if_pos g2], by rw [if_neg (by omega)]⟩
  · by_cases hl : lo ≤ j
    · right
      refine ⟨j, hl, by omega, rfl, ?_, ?_⟩
      · rw [if_neg (by rw [lt_n (by omega) (by omega)]; omega), if_neg (by rw [L5, lt_n (by omega) (by omega)]; omega)]
      · rw [nI_toInt (by omega), if_pos (by omega)]
    · left
      refine ⟨by rw [if_pos (by rw [lt_n (by omega) (by omega)]; omega)], by rw [nI_toInt (by omega), if_neg (by omega)]⟩
theorem pred_toInt {n : Nat} (h : n < 1073741824) : ((nI n - (1:Int32)).toInt64).toInt = (n : Int) - 1 := by
  rw [Int32.toInt_toInt64, L1, pk_sub_toInt h (by decide)]
  rfl
theorem chkC (N n : Nat) (hn : n ≤ 4) (a : Int32) : (f_X1_has N a (nI n) = some 0 ∧ f_X6_isClerk N a (nI n) = some 0) ∨ ∃ c, c < n ∧ a = nI c ∧ f_X1_has N a (nI n) = some 1 ∧ f_X6_isClerk N a (nI n) = some 1 := by
  unfold f_X1_has f_X6_isClerk
  rw [in_b N a 0 _ 0 _ (by decide) (pred_toInt (by omega)), Option.bind_some]
  rcases a_cases a n (by omega) with ⟨h, h2⟩ | ⟨h1, h, h2⟩ | ⟨j, hj, rfl⟩
  · left
    exact ⟨by rw [if_pos h], by rw [if_neg (by omega), gZ_0]⟩
  · left
    exact ⟨by rw [if_neg h1, if_pos h], by rw [if_neg (by omega), gZ_0]⟩
  · right
    refine ⟨j, hj, rfl, ?_, ?_⟩
    · rw [if_neg (nI_pos (by omega)), if_neg (by rw [le_n (by omega) (by omega)]; omega)]
    · rw [nI_toInt (by omega), if_pos (by omega), gZ_1]
/-- a place of a row -/
theorem chkP {N m v : Nat} (hN : 200000 ≤ N) (hm : m ≤ 6) (hv : v < 4 ^ m) (a : Int32) : (f_X4_wordOrNone N (nI (4 ^ m + v)) a = some (-9) ∧ f_X6_in N a.toInt64 0 (nI m - (1:Int32)).toInt64 = some 0) ∨ ∃ k, k < m ∧ a = nI k ∧ f_X4_wordOrNone N (nI (4 ^ m + v)) a = some (nI (wd m v k)) ∧ f_X6_in N a.toInt64 0 (nI m - (1:Int32)).toInt64 = some 1 := by
  unfold f_X4_wordOrNone
  rw [in_b N a 0 _ 0 _ (by decide) (pred_toInt (by omega)), wI hN hm hv, Option.bind_some]
  rcases a_cases a m (by omega) with ⟨h, h2⟩ | ⟨h1, h, h2⟩ | ⟨j, hj, rfl⟩
  · left
    exact ⟨by rw [if_pos h], by rw [if_neg (by omega)]⟩
  · left
    refine ⟨by rw [if_neg h1, if_neg]; rw [Int32.lt_iff_toInt_lt, nI_toInt (by omega)]; omega, by rw [if_neg (by omega)]⟩
  · right
    refine ⟨j, hj, rfl, ?_, ?_⟩
    · rw [if_neg (nI_pos (by omega)), if_pos (by rw [lt_n (by omega) (by omega)]; omega), wA hm hv hj]
      rfl
    · rw [nI_toInt (by omega), if_pos (by omega)]
theorem l1N {N x : Nat} (hx : x ≤ 4) : f_X5_lessOneOrNone N (nI x) = some (mN x) := by
  unfold f_X5_lessOneOrNone
  by_cases h : x = 0
  · subst h; rfl
  · rw [if_neg (nI_ne0 (by omega) (by omega)), mN_s h, L1, sub_n (by omega)]
theorem hab_of {n m v : Nat} {D I F T C : Nat → Nat} {bs : Int32} {bd bi : Nat → Int32} {mc : Int32} {md mi : Nat → Int32} {sp : Int32} {bf bt bc mn : Nat → Int32} (hC : ClerkR n D I bs bd bi mc md mi) (hO : NowOk n m v F T C) (hX : NowX m v F T C sp bf bt bc) (hM : NowM n m v F T C mn) : HabB n D F T I C ∧ HabX n D F T I C bd bf bt bi bc ∧ HabM n D F T I C md mi mn := by
  obtain ⟨hn, -, -, h⟩ := hC
  obtain ⟨-, -, o1, o2⟩ := hO
  refine ⟨⟨hn, fun c hc => ?_⟩, fun c hc => ?_, fun c hc => ?_⟩
  · obtain ⟨q1, q2, -⟩ := h c hc
    obtain ⟨p1, p2, p3⟩ := o1 c (by omega)
    obtain ⟨r1, r2⟩ := o2 c hc
    exact ⟨q1, p1, p2, q2, r2, r1⟩
  · obtain ⟨-, -, q1, q2, -⟩ := h c hc
    obtain ⟨p1, p2, p3⟩ := hX.2 c (by omega)
    exact ⟨q1, p1, p2, q2, p3⟩
  · obtain ⟨-, -, -, -, q1, q2⟩ := h c hc
    obtain ⟨p1, p2, p3⟩ := hM.2 c hc
    exact ⟨q1, q2, p1, p2, p3⟩
/-- what is told of a clerk -/
theorem toldCase {n c : Nat} {t : Nat → Option (Nat × Nat)} {to mt : Nat → Int32} (N : Nat) (hN : 200000 ≤ N) (h : ToldR n t to mt) (hn : n ≤ 4) (hc : c < n) : (t c = none ∧ to c = 0 ∧ mt c = -9 ∧ f_X5_wordsTold N (nI c) to = some (-9) ∧ f_X6_toldWords N (nI c) mt = some (-9)) ∨ ∃ a b, t c = some (a, b) ∧ a ≤ 6 ∧ b < 4 ^ a ∧ to c = nI (4 ^ a + b) ∧ mt c = nI (4096 * a + b) ∧ ¬ to c = 0 ∧ ¬ mt c = -9 ∧ f_X5_wordsTold N (nI c) to = some (nI a) ∧ f_X6_toldWords N (nI c) mt = some (nI a) := by
  unfold f_X5_wordsTold f_X6_toldWords
  rw [gI_n (by omega) (by omega), gI_n (by omega) (by omega), gI_n (by omega) (by omega), gI_n (by omega) (by omega), cl_n (by omega)]
  rcases h c hc with ⟨h0, h1, h2⟩ | ⟨a, b, h0, h1, h2, h3, h4⟩
  · left
    exact ⟨h0, h1, h2, by rw [if_pos h1], by rw [if_pos h2]⟩
  · right
    have hp := p4_le h1
    have hq := p4_pos a
    have n1 : ¬ to c = 0 := by rw [h3]; exact nI_ne0 (by omega) (by omega)
    have n2 : ¬ mt c = -9 := by rw [h4, m9_n (by omega)]; exact id
    refine ⟨a, b, h0, h1, h2, h3, h4, n1, n2, ?_, ?_⟩
    · rw [if_neg n1, h3, wI hN h1 h2]; rfl
    · rw [if_neg n2, h4, wO h1 h2]; rfl
theorem ToldR_set {n c : Nat} {t : Nat → Option (Nat × Nat)} {to mt : Nat → Int32} (h : ToldR n t to mt) (x y : Int32) (z : Option (Nat × Nat)) (hz : (z = none ∧ x = 0 ∧ y = -9) ∨ ∃ a b, z = some (a, b) ∧ a ≤ 6 ∧ b < 4 ^ a ∧ x = nI (4 ^ a + b) ∧ y = nI (4096 * a + b)) : ToldR n (fun j => if j = c then z else t j) (upd to c x) (upd mt c y) := by
  intro j hj
  by_cases e : j = c
  · subst e
    rw [up_s, up_s]
    simp only [if_true]
    exact hz
  · rw [up_n e, up_n e]
    simp only [if_neg e]
    exact h j hj
theorem chkI (N : Nat) (a : Int32) (b c : Int64) (k : Nat) (hb : b.toInt = 0) (hc : c.toInt = (k : Int) - 1) (hk : k < 1073741824) : (f_X6_in N a.toInt64 b c = some 0 ∧ ((a < 0 ∧ a.toInt < 0) ∨ (¬ a < 0 ∧ nI k ≤ a ∧ (k : Int) ≤ a.toInt))) ∨ ∃ j, j < k ∧ a = nI j ∧ f_X6_in N a.toInt64 b c = some 1 := by
  rw [in_b N a b c 0 _ hb hc]
  rcases a_cases a k (by omega) with h | h | ⟨j, hj, rfl⟩
  · left
    exact ⟨by rw [if_neg (by omega)], Or.inl h⟩
  · left
    exact ⟨by rw [if_neg (by omega)], Or.inr h⟩
  · right
    exact ⟨j, hj, rfl, by rw [nI_toInt (by omega), if_pos (by omega)]⟩
theorem n10 : ¬ (1:Int32) = 0 := by decide
theorem z00 : (0:Int32) = 0 := rfl
