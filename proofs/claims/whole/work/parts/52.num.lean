theorem L0 : (0:Int32) = nI 0 := rfl
theorem L1 : (1:Int32) = nI 1 := rfl
theorem L2 : (2:Int32) = nI 2 := rfl
theorem L3 : (3:Int32) = nI 3 := rfl
theorem L4 : (4:Int32) = nI 4 := rfl
theorem L5 : (5:Int32) = nI 5 := rfl
theorem L6 : (6:Int32) = nI 6 := rfl
theorem L7 : (7:Int32) = nI 7 := rfl
theorem L8 : (8:Int32) = nI 8 := rfl
theorem L9 : (9:Int32) = nI 9 := rfl
theorem L10 : (10:Int32) = nI 10 := rfl
theorem L13 : (13:Int32) = nI 13 := rfl
theorem L15 : (15:Int32) = nI 15 := rfl
theorem L16 : (16:Int32) = nI 16 := rfl
theorem L24 : (24:Int32) = nI 24 := rfl
theorem L31 : (31:Int32) = nI 31 := rfl
theorem L32 : (32:Int32) = nI 32 := rfl
theorem L45 : (45:Int32) = nI 45 := rfl
theorem L47 : (47:Int32) = nI 47 := rfl
theorem L48 : (48:Int32) = nI 48 := rfl
theorem L57 : (57:Int32) = nI 57 := rfl
theorem L63 : (63:Int32) = nI 63 := rfl
theorem L64 : (64:Int32) = nI 64 := rfl
theorem L67 : (67:Int32) = nI 67 := rfl
theorem L75 : (75:Int32) = nI 75 := rfl
theorem L97 : (97:Int32) = nI 97 := rfl
theorem L100 : (100:Int32) = nI 100 := rfl
theorem L130 : (130:Int32) = nI 130 := rfl
theorem L255 : (255:Int32) = nI 255 := rfl
theorem L650 : (650:Int32) = nI 650 := rfl
theorem L1000 : (1000:Int32) = nI 1000 := rfl
theorem L1250 : (1250:Int32) = nI 1250 := rfl
theorem L2047 : (2047:Int32) = nI 2047 := rfl
theorem L2048 : (2048:Int32) = nI 2048 := rfl
theorem L4096 : (4096:Int32) = nI 4096 := rfl
theorem L8191 : (8191:Int32) = nI 8191 := rfl
theorem L8192 : (8192:Int32) = nI 8192 := rfl
theorem L28672 : (28672:Int32) = nI 28672 := rfl

theorem gI_n {α : Type} {j n : Nat} {k : Option α} (h : j < n) (hn : n < 2147483648) : gI (nI j) n k = k := by
  unfold gI
  rw [if_pos]
  rw [nI_toInt (by omega)]
  omega
theorem gI_e {α : Type} {i : Int32} {j n : Nat} {k : Option α} (e : i = nI j) (h : j < n) (hn : n < 2147483648) : gI i n k = k := by rw [e]; exact gI_n h hn
theorem gN_n {α : Type} {j : Nat} {k : Option α} (h : 0 < j) (hj : j < 2147483648) : gN (nI j) k = k := by
  unfold gN
  rw [if_neg (nI_ne0 h hj)]
theorem gZ_0 {α : Type} {k : Option α} : gZ 0 k = k := by unfold gZ; rw [if_pos (Or.inl rfl)]
theorem gZ_1 {α : Type} {k : Option α} : gZ 1 k = k := by unfold gZ; rw [if_pos (Or.inr rfl)]
theorem cl_n {j : Nat} (h : j < 2147483648) : (nI j).toNatClampNeg = j := nI_clamp h
theorem le_n {a b : Nat} (ha : a < 2147483648) (hb : b < 2147483648) : (nI a ≤ nI b) = (a ≤ b) := propext (nI_leI ha hb)
theorem lt_n {a b : Nat} (ha : a < 2147483648) (hb : b < 2147483648) : (nI a < nI b) = (a < b) := propext (nI_ltI ha hb)
theorem eq_n {a b : Nat} (ha : a < 2147483648) (hb : b < 2147483648) : (nI a = nI b) = (a = b) := propext (nI_eq ha hb)
theorem m9_n {a : Nat} (ha : a < 2147483648) : (nI a = (-9:Int32)) = False := by
  refine eq_false (fun h => ?_)
  have := congrArg Int32.toInt h
  rw [nI_toInt ha, show ((-9:Int32)).toInt = -9 from by decide] at this
  omega
theorem add_n (a b : Nat) : nI a + nI b = nI (a + b) := nI_add a b
theorem sub_n {a b : Nat} (h : b ≤ a) : nI a - nI b = nI (a - b) := pk_sub h
theorem mul_n (a b : Nat) : nI a * nI b = nI (a * b) := pk_mul a b
theorem div_n {a d : Nat} (ha : a < 2147483648) (h0 : 0 < d) (hd : d < 2147483648) : nI a / nI d = nI (a / d) := pk_div ha h0 hd
theorem rem_n {a d : Nat} (ha : a < 2147483648) (h0 : 0 < d) (hd : d < 2147483648) : nI a - nI a / nI d * nI d = nI (a % d) := pk_rem ha h0 hd
theorem p4_le {m : Nat} (h : m ≤ 6) : 4 ^ m ≤ 4096 := Nat.pow_le_pow_right (n := 4) (by decide) h
theorem p4_le5 {m : Nat} (h : m ≤ 5) : 4 ^ m ≤ 1024 := Nat.pow_le_pow_right (n := 4) (by decide) h
theorem p4_pos (m : Nat) : 0 < 4 ^ m := Nat.pow_pos (by decide)
theorem shr2 {q : Nat} (h : q < 2147483648) : nI q >>> ((2:Int32) &&& 31) = nI (q / 4) := pk_shrN h _ 2 (by decide)
theorem shl2 {q : Nat} (h : q < 1073741824) : nI q <<< ((2:Int32) &&& 31) = nI (q * 4) := pk_shlN _ 2 (by decide) (by omega)
theorem six {j : Nat} (h : j ≤ 6) : j = 0 ∨ j = 1 ∨ j = 2 ∨ j = 3 ∨ j = 4 ∨ j = 5 ∨ j = 6 := by omega
theorem shrJ {j q : Nat} (hj : j ≤ 6) (h : q < 2147483648) : nI q >>> (nI (2 * j) &&& 31) = nI (q / 4 ^ j) := by
  rcases six hj with rfl | rfl | rfl | rfl | rfl | rfl | rfl
  · exact pk_shrN h _ 0 (by decide)
  · exact pk_shrN h _ 2 (by decide)
  · exact pk_shrN h _ 4 (by decide)
  · exact pk_shrN h _ 6 (by decide)
  · exact pk_shrN h _ 8 (by decide)
  · exact pk_shrN h _ 10 (by decide)
  · exact pk_shrN h _ 12 (by decide)
theorem shlJ {j q : Nat} (hj : j ≤ 6) (h : q ≤ 2) : nI q <<< (nI (2 * j) &&& 31) = nI (q * 4 ^ j) := by
  rcases six hj with rfl | rfl | rfl | rfl | rfl | rfl | rfl
  · exact pk_shlN _ 0 (by decide) (by omega)
  · exact pk_shlN _ 2 (by decide) (by omega)
  · exact pk_shlN _ 4 (by decide) (by omega)
  · exact pk_shlN _ 6 (by decide) (by omega)
  · exact pk_shlN _ 8 (by decide) (by omega)
  · exact pk_shlN _ 10 (by decide) (by omega)
  · exact pk_shlN _ 12 (by decide) (by omega)
theorem and3 {q : Nat} (h : q < 2147483648) : nI q &&& (3:Int32) = nI (q % 4) := pk_andN (by omega) 2 (by decide)
theorem orW {q w : Nat} (h : w < 4) : nI (q * 4) ||| nI w = nI (4 * q + w) := by
  have h1 : (Int32.ofNat (q * 4) ||| Int32.ofNat w) = Int32.ofNat ((q * 4) ||| w) := by
    apply Int32.toBitVec_inj.mp
    simp only [Int32.toBitVec_or, Int32.toBitVec_ofNat']
    exact BitVec.ofNat_or.symm
  have h2 : (q * 4) ||| w = 4 * q + w := by
    have := Nat.two_pow_add_eq_or_of_lt (i := 2) (b := w) h q
    rw [show q * 4 = 2 ^ 2 * q by omega]
    exact this.symm
  rw [h2] at h1
  exact h1
/-- the word at place k of a row (m, v) -/
def wd (m v k : Nat) : Nat := v / 4 ^ (m - 1 - k) % 4
theorem wd_lt (m v k : Nat) : wd m v k < 4 := Nat.mod_lt _ (by decide)
theorem wI_loop (N : Nat) (k : Int32 → Int32 → Option Int32) : ∀ (j n w v : Nat), v < 4 ^ j → w + j ≤ 6 → j < n → ∃ z, f_X4_wordsIn_4 N k n (nI w) (nI (4 ^ j + v)) = k (nI (w + j)) z := by
  intro j
  induction j with
  | zero =>
    intro n w v hv hw hn
    obtain ⟨n', rfl⟩ : ∃ n', n = n' + 1 := ⟨n - 1, by omega⟩
    have hv0 : v = 0 := by simpa using hv
    subst hv0
    exact ⟨_, by rw [f_X4_wordsIn_4, if_pos (by decide)]; rfl⟩
  | succ j ih =>
    intro n w v hv hw hn
    obtain ⟨n', rfl⟩ : ∃ n', n = n' + 1 := ⟨n - 1, by omega⟩
    have hp := p4_le (m := j + 1) (by omega)
    have hq := p4_pos j
    rw [Nat.pow_succ] at hv hp ⊢
    obtain ⟨z, hz⟩ := ih n' (w + 1) (v / 4) (by omega) (by omega) (by omega)
    refine ⟨z, ?_⟩
    rw [f_X4_wordsIn_4, if_neg (by rw [L1, le_n (by omega) (by omega)]; omega), if_neg (by rw [L6, le_n (by omega) (by omega)]; omega), shr2 (by omega), L1, add_n, show (4 ^ j * 4 + v) / 4 = 4 ^ j + v / 4 by omega, hz]
    rw [show w + 1 + j = w + (j + 1) by omega]
theorem wI {N m v : Nat} (hN : 200000 ≤ N) (hm : m ≤ 6) (hv : v < 4 ^ m) : f_X4_wordsIn N (nI (4 ^ m + v)) = some (nI m) := by
  unfold f_X4_wordsIn
  obtain ⟨z, hz⟩ := wI_loop N (fun z1_4 z2_4 => some z1_4) m N 0 v hv (by omega) (by omega)
  rw [L0, hz]
  simp
theorem wdC {m v k : Nat} (hk : k < m) : (4 ^ m + v) / 4 ^ (m - 1 - k) % 4 = wd m v k := by
  unfold wd
  obtain ⟨j, hj⟩ : ∃ j, j = m - 1 - k := ⟨_, rfl⟩
  rw [← hj, show m = (k + 1) + j by omega, Nat.pow_add, Nat.mul_comm, Nat.mul_add_div (p4_pos j), Nat.pow_succ]
  omega
theorem wA {N m v k : Nat} (hm : m ≤ 6) (hv : v < 4 ^ m) (hk : k < m) : f_X4_wordAt N (nI (4 ^ m + v)) (nI m) (nI k) = some (nI (wd m v k)) := by
  have hp := p4_le hm
  unfold f_X4_wordAt
  have h1 : (4 ^ m + v) / 4 ^ (m - 1 - k) ≤ 4 ^ m + v := Nat.div_le_self _ _
  rw [L1, sub_n (by omega), sub_n (by omega), L2, mul_n, shrJ (by omega) (by omega), and3 (by omega), wdC hk]
theorem wW {N m v w : Nat} (hm : m ≤ 5) (hv : v < 4 ^ m) (hw : w < 4) : f_X4_with N (nI (4 ^ m + v)) (nI w) = some (nI (4 ^ (m + 1) + (4 * v + w))) := by
  have hp := p4_le5 hm
  unfold f_X4_with
  rw [shl2 (by omega), orW hw, Nat.pow_succ, show 4 * (4 ^ m + v) + w = 4 ^ m * 4 + (4 * v + w) by omega]
theorem fO {N n : Nat} (h : n ≤ 6) : f_X4_firstOf N (nI n) = some (nI (4 ^ n)) := by
  unfold f_X4_firstOf
  rw [L2, mul_n, L1, shlJ h (by omega), Nat.one_mul]
theorem eO {N n : Nat} (h : n ≤ 6) : f_X4_endOf N (nI n) = some (nI (2 * 4 ^ n)) := by
  unfold f_X4_endOf
  rw [L2, mul_n, shlJ h (by omega)]
theorem fT {N n : Nat} (h : n ≤ 6) : f_X6_fourTo N (nI n) = some (nI (4 ^ n)) := by
  unfold f_X6_fourTo
  rw [L2, mul_n, L1, shlJ h (by omega), Nat.one_mul]
theorem wO {N m v : Nat} (hm : m ≤ 6) (hv : v < 4 ^ m) : f_X6_wordsOf N (nI (4096 * m + v)) = some (nI m) := by
  have hp := p4_le hm
  unfold f_X6_wordsOf
  rw [L4096, div_n (by omega) (by omega) (by omega), show (4096 * m + v) / 4096 = m by omega]
theorem mA {N m v k : Nat} (hm : m ≤ 6) (hv : v < 4 ^ m) (hk : k < m) : f_X6_wordAt N (nI (4096 * m + v)) (nI k) = some (nI (wd m v k)) := by
  have hp := p4_le hm
  unfold f_X6_wordAt
  rw [wO hm hv, Option.bind_some, L1, sub_n (by omega), sub_n (by omega), fT (by omega), Option.bind_some]
  have h2 := p4_pos (m - 1 - k)
  have h3 := p4_le (m := m - 1 - k) (by omega)
  have h4 : v / 4 ^ (m - 1 - k) ≤ v := Nat.div_le_self _ _
  rw [gN_n h2 (by omega), L4096, rem_n (by omega) (by omega) (by omega), show (4096 * m + v) % 4096 = v by omega, div_n (by omega) h2 (by omega), L4, rem_n (by omega) (by omega) (by omega)]
  rfl
theorem mW {N m v w : Nat} (hm : m ≤ 5) (hv : v < 4 ^ m) (hw : w < 4) : f_X6_withWord N (nI (4096 * m + v)) (nI w) = some (nI (4096 * (m + 1) + (4 * v + w))) := by
  have hp := p4_le5 hm
  unfold f_X6_withWord
  rw [L4096, rem_n (by omega) (by omega) (by omega), div_n (by omega) (by omega) (by omega), L4, mul_n, mul_n, add_n, add_n, add_n, show (4096 * m + v) / 4096 * 4096 + 4096 + (4096 * m + v) % 4096 * 4 + w = 4096 * (m + 1) + (4 * v + w) by omega]
/-- in(v, least, most) -/
theorem in_I (N : Nat) (a : Int32) (b c : Int64) : f_X6_in N a.toInt64 b c = some (if b.toInt ≤ a.toInt ∧ a.toInt ≤ c.toInt then 1 else 0) := by
  unfold f_X6_in
  have e1 : (lg_cmp a.toInt64 b < (0:Int32)) ↔ a.toInt < b.toInt := by rw [lg_cmp_lt, Int64.lt_iff_toInt_lt, Int32.toInt_toInt64]
  have e2 : ((0:Int32) < lg_cmp a.toInt64 c) ↔ c.toInt < a.toInt := by rw [lg_cmp_gt, Int64.lt_iff_toInt_lt, Int32.toInt_toInt64]
  by_cases h1 : lg_cmp a.toInt64 b < (0:Int32)
  · rw [if_pos h1, if_neg]
    have := e1.mp h1
    omega
  · rw [if_neg h1]
    have g1 : ¬ a.toInt < b.toInt := fun h => h1 (e1.mpr h)
    by_cases h2 : (0:Int32) < lg_cmp a.toInt64 c
    · rw [if_pos h2, if_neg]
      have := e2.mp h2
      omega
    · have g2 : ¬ c.toInt < a.toInt := fun h => h2 (e2.mpr h)
      rw [if_neg h2, if_pos (by omega)]

