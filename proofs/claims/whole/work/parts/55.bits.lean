theorem wb_tb (n : Nat) : (lN n).toBitVec = BitVec.ofNat 64 n := rfl
theorem wb_inj {a b : Int64} (h : a.toBitVec = b.toBitVec) : a = b := Int64.toBitVec_inj.mp h
theorem wb_tn {n : Nat} (h : n < 2 ^ 64) : (lN n).toBitVec.toNat = n := by rw [wb_tb, BitVec.toNat_ofNat, Nat.mod_eq_of_lt h]
theorem wb_of (x : Int64) : ∃ n, n < 2 ^ 64 ∧ x = lN n := ⟨x.toBitVec.toNat, x.toBitVec.isLt, wb_inj (by rw [wb_tb]; simp)⟩
theorem wb_of32 (x : Int32) : ∃ n, n < 2 ^ 32 ∧ x = nI n := ⟨x.toBitVec.toNat, x.toBitVec.isLt, Int32.toBitVec_inj.mp (by show _ = BitVec.ofNat 32 _; simp)⟩
theorem wb_c : ∀ k, k < 64 → ((nI k).toInt64 &&& 63) = lN k := by decide +kernel
theorem wb_cu : ∀ k, k < 64 → ((nI k).toInt64.toUInt64 &&& Int64.toUInt64 63) = UInt64.ofNat k := by decide +kernel
theorem wb_sm : ∀ k, k < 64 → (BitVec.ofNat 64 k).smod 64 = BitVec.ofNat 64 k := by decide +kernel
theorem wb_pw {a b : Nat} (h : a ≤ b) : 2 ^ b = 2 ^ a * 2 ^ (b - a) := by rw [← Nat.pow_add]; congr 1; omega
theorem wb_lt2 {a b : Nat} (h : a < b) : 2 ^ a < 2 ^ b := Nat.pow_lt_pow_right (by decide) h
theorem wb_mod (n : Nat) : lN n = lN (n % 2 ^ 64) := wb_inj (by rw [wb_tb, wb_tb]; apply BitVec.eq_of_toNat_eq; rw [BitVec.toNat_ofNat, BitVec.toNat_ofNat, Nat.mod_mod])
theorem wb_shr {n k : Nat} (hn : n < 2 ^ 64) (hk : k < 64) : ((lN n).toUInt64 >>> ((nI k).toInt64.toUInt64 &&& Int64.toUInt64 63)).toInt64 = lN (n / 2 ^ k) := by
  rw [wb_cu k hk]
  apply wb_inj
  apply BitVec.eq_of_toNat_eq
  show ((lN n).toUInt64 >>> UInt64.ofNat k).toNat = (BitVec.ofNat 64 _).toNat
  have h1 : (UInt64.ofNat k).toNat = k := by
    show (BitVec.ofNat 64 k).toNat = k
    rw [BitVec.toNat_ofNat, Nat.mod_eq_of_lt (by omega)]
  have h2 : (lN n).toUInt64.toNat = n := wb_tn hn
  rw [UInt64.toNat_shiftRight, h1, h2, Nat.mod_eq_of_lt hk, Nat.shiftRight_eq_div_pow, BitVec.toNat_ofNat, Nat.mod_eq_of_lt (Nat.lt_of_le_of_lt (Nat.div_le_self _ _) hn)]
theorem wb_shl (n : Nat) {k : Nat} (hk : k < 64) : lN n <<< ((nI k).toInt64 &&& 63) = lN (n * 2 ^ k) := by
  rw [wb_c k hk]
  apply wb_inj
  rw [Int64.toBitVec_shiftLeft, wb_tb, wb_tb, wb_tb, wb_sm k hk]
  apply BitVec.eq_of_toNat_eq
  rw [BitVec.shiftLeft_eq', BitVec.toNat_shiftLeft, BitVec.toNat_ofNat, BitVec.toNat_ofNat, BitVec.toNat_ofNat, Nat.mod_eq_of_lt (show k < 2 ^ 64 by omega), Nat.shiftLeft_eq, Nat.mul_mod, Nat.mod_mod, ← Nat.mul_mod]
theorem wb_and {a b : Nat} (ha : a < 2 ^ 64) (hb : b < 2 ^ 64) : lN a &&& lN b = lN (a &&& b) := by
  apply wb_inj
  rw [Int64.toBitVec_and, wb_tb, wb_tb, wb_tb]
  apply BitVec.eq_of_toNat_eq
  rw [BitVec.toNat_and, BitVec.toNat_ofNat, BitVec.toNat_ofNat, BitVec.toNat_ofNat, Nat.mod_eq_of_lt ha, Nat.mod_eq_of_lt hb, Nat.mod_eq_of_lt (Nat.and_lt_two_pow _ hb)]
theorem wb_or {a b : Nat} (ha : a < 2 ^ 64) (hb : b < 2 ^ 64) : lN a ||| lN b = lN (a ||| b) := by
  apply wb_inj
  rw [Int64.toBitVec_or, wb_tb, wb_tb, wb_tb]
  apply BitVec.eq_of_toNat_eq
  rw [BitVec.toNat_or, BitVec.toNat_ofNat, BitVec.toNat_ofNat, BitVec.toNat_ofNat, Nat.mod_eq_of_lt ha, Nat.mod_eq_of_lt hb, Nat.mod_eq_of_lt (Nat.or_lt_two_pow ha hb)]
theorem lor_2 {a b i : Nat} (hb : b < 2 ^ i) (h : 2 ^ i * a + b < 2 ^ 63) : lN (2 ^ i * a) ||| lN b = lN (2 ^ i * a + b) := by
  rw [wb_or (by omega) (by omega), Nat.two_pow_add_eq_or_of_lt hb]
theorem sh6 : ∀ x, x < 8 → (nI x <<< ((6:Int32) &&& 31)).toInt64 = lN (64 * x) := by decide
theorem sh3 : ∀ x, x < 8 → (nI x <<< ((3:Int32) &&& 31)).toInt64 = lN (8 * x) := by decide
theorem sh0 : ∀ x, x < 8 → (nI x).toInt64 = lN x := by decide
theorem hab1 {x f t c : Nat} (hx : x < 134217728) (hf : f < 8) (ht : t < 8) (hc : c < 8) : (((lN x <<< ((9:Int32).toInt64 &&& 63)) ||| (nI f <<< ((6:Int32) &&& 31)).toInt64) ||| (nI t <<< ((3:Int32) &&& 31)).toInt64) ||| (nI c).toInt64 = lN (x * 512 + (64 * f + 8 * t + c)) := by
  rw [L9, wb_shl x (by decide), sh6 f hf, sh3 t ht, sh0 c hc]
  have e1 := lor_2 (a := x) (b := 64 * f) (i := 9) (by omega) (by omega)
  rw [show x * 2 ^ 9 = 2 ^ 9 * x by omega, e1, show 2 ^ 9 * x + 64 * f = 2 ^ 6 * (8 * x + f) by omega]
  have e2 := lor_2 (a := 8 * x + f) (b := 8 * t) (i := 6) (by omega) (by omega)
  rw [e2, show 2 ^ 6 * (8 * x + f) + 8 * t = 2 ^ 3 * (8 * (8 * x + f) + t) by omega]
  have e3 := lor_2 (a := 8 * (8 * x + f) + t) (b := c) (i := 3) (by omega) (by omega)
  rw [e3]
  congr 1
  omega
theorem neg1 (n : Nat) : nI (n + 1) + (-1:Int32) = nI n := pk_m1 n
theorem hN_ {N : Nat} {F T C : Nat → Nat} {bf bt bc : Nat → Int32} (hN : 200000 ≤ N) (h : ∀ c, c < 4 → F c ≤ 4 ∧ T c ≤ 4 ∧ C c ≤ 4) (hX : ∀ c, c < 4 → bf c = nI (F c) ∧ bt c = nI (T c) ∧ bc c = nI (C c)) : f_X1_habitsNow N bf bt bc = some (lN ((((64 * F 3 + 8 * T 3 + C 3) * 512 + (64 * F 2 + 8 * T 2 + C 2)) * 512 + (64 * F 1 + 8 * T 1 + C 1)) * 512 + (64 * F 0 + 8 * T 0 + C 0))) := by
  obtain ⟨g, rfl⟩ : ∃ g, N = g + 5 := ⟨N - 5, by omega⟩
  obtain ⟨a0, b0, c0⟩ := h 0 (by decide)
  obtain ⟨a1, b1, c1⟩ := h 1 (by decide)
  obtain ⟨a2, b2, c2⟩ := h 2 (by decide)
  obtain ⟨a3, b3, c3⟩ := h 3 (by decide)
  obtain ⟨d0, e0, f0⟩ := hX 0 (by decide)
  obtain ⟨d1, e1, f1⟩ := hX 1 (by decide)
  obtain ⟨d2, e2, f2⟩ := hX 2 (by decide)
  obtain ⟨d3, e3, f3⟩ := hX 3 (by decide)
  have step : ∀ (n y : Nat) (j : Nat) (k : Int64 → Int32 → Option Int64), j < 4 → y < 134217728 → f_X1_habitsNow_4 (g + 5) bf bt bc k (n + 1) (lN y) (nI j) = f_X1_habitsNow_4 (g + 5) bf bt bc k n (lN (y * 512 + (64 * F j + 8 * T j + C j))) (nI j + (-1:Int32)) := by
    intro n y j k hj hy
    obtain ⟨q1, q2, q3⟩ := h j hj
    obtain ⟨r1, r2, r3⟩ := hX j hj
    rw [f_X1_habitsNow_4, if_neg (nI_pos (by omega)), gI_n (by omega) (by omega), gI_n (by omega) (by omega), gI_n (by omega) (by omega), cl_n (by omega), r1, r2, r3, hab1 hy (by omega) (by omega) (by omega)]
  unfold f_X1_habitsNow
  rw [show (0:Int64) = lN 0 from rfl, L3, step _ _ 3 _ (by omega) (by omega), neg1 2, step _ _ 2 _ (by omega) (by omega), neg1 1, step _ _ 1 _ (by omega) (by omega), neg1 0, step _ _ 0 _ (by omega) (by omega), f_X1_habitsNow_4, if_pos (by decide)]
  simp
theorem sN {N n m v : Nat} {F T C : Nat → Nat} {bf bt bc : Nat → Int32} (hN : 200000 ≤ N) (hO : NowOk n m v F T C) (hX : ∀ c, c < 4 → bf c = nI (F c) ∧ bt c = nI (T c) ∧ bc c = nI (C c)) : f_X5_stateNow N (nI (4 ^ m + v)) bf bt bc = some (lN (pkN m v F T C)) := by
  obtain ⟨hm, hv, h, -⟩ := hO
  have hp := p4_le hm
  obtain ⟨a0, b0, c0⟩ := h 0 (by decide)
  obtain ⟨a1, b1, c1⟩ := h 1 (by decide)
  obtain ⟨a2, b2, c2⟩ := h 2 (by decide)
  obtain ⟨a3, b3, c3⟩ := h 3 (by decide)
  unfold f_X5_stateNow pkN
  rw [hN_ hN h hX, Option.bind_some, nI_l (by omega), show (36:Int32) = nI 36 from rfl, wb_shl _ (by decide), Nat.mul_comm _ (2 ^ 36), lor_2 (by omega) (by omega), show 2 ^ 36 * (4 ^ m + v) = (4 ^ m + v) * 68719476736 by omega]
/-- three bits of a number that stands in an int, from place 6 or 3 or 0 -/
theorem nI_int (Y : Nat) : ∃ k : Int, (nI Y).toInt = (Y : Int) - 4294967296 * k := by
  refine ⟨(Y : Int) / 4294967296 + (if (Y : Int) % 4294967296 < 2147483648 then 0 else 1), ?_⟩
  show (Int32.ofNat Y).toInt = _
  rw [Int32.toInt_ofNat']
  rw [Int.bmod_def, show ((Int32.size : Nat) : Int) = 4294967296 from rfl]
  split <;> split <;> omega
theorem bv_int (x : Int32) : ∃ k : Int, (x.toBitVec.toNat : Int) = x.toInt + 4294967296 * k := by
  have h := BitVec.toInt_eq_toNat_cond x.toBitVec
  have h2 : x.toInt = x.toBitVec.toInt := rfl
  rw [h2, h]
  split
  · exact ⟨0, by omega⟩
  · exact ⟨1, by omega⟩
theorem bits3 (Y s j : Nat) (S : Int32) (hs : (S.toBitVec.smod 32).toNat = s) (hj : 2 ^ s = j) (hjj : j = 64 ∨ j = 8) : (nI Y >>> S) &&& (7:Int32) = nI (Y / j % 8) := by
  rw [pk_and (nI Y >>> S) 3 (by decide)]
  congr 1
  obtain ⟨k1, h1⟩ := nI_int Y
  obtain ⟨k2, h2⟩ := bv_int (nI Y >>> S)
  have h3 := pk_shr (nI Y) S s hs
  rw [Int.shiftRight_eq_div_pow, hj] at h3
  rw [h3, h1] at h2
  rcases hjj with rfl | rfl
  · have : (((nI Y >>> S).toBitVec.toNat % 8 : Nat) : Int) = ((Y / 64 % 8 : Nat) : Int) := by
      omega
    have h9 : (2:Nat) ^ 3 = 8 := rfl
    rw [h9]
    omega
  · have : (((nI Y >>> S).toBitVec.toNat % 8 : Nat) : Int) = ((Y / 8 % 8 : Nat) : Int) := by
      omega
    have h9 : (2:Nat) ^ 3 = 8 := rfl
    rw [h9]
    omega
theorem bits0 (Y : Nat) : nI Y &&& (7:Int32) = nI (Y % 8) := by
  rw [pk_and (nI Y) 3 (by decide)]
  congr 1
  obtain ⟨k1, h1⟩ := nI_int Y
  obtain ⟨k2, h2⟩ := bv_int (nI Y)
  have h9 : (2:Nat) ^ 3 = 8 := rfl
  rw [h9]
  omega
theorem pk_lt' {n m v : Nat} {F T C : Nat → Nat} (hO : NowOk n m v F T C) : pkN m v F T C < 2 ^ 63 ∧ 0 < pkN m v F T C := by
  obtain ⟨hm, hv, h, -⟩ := hO
  have hp := p4_le hm
  have hq := p4_pos m
  obtain ⟨a0, b0, c0⟩ := h 0 (by decide)
  obtain ⟨a1, b1, c1⟩ := h 1 (by decide)
  obtain ⟨a2, b2, c2⟩ := h 2 (by decide)
  obtain ⟨a3, b3, c3⟩ := h 3 (by decide)
  unfold pkN
  omega
theorem pk_get {n m v : Nat} {F T C : Nat → Nat} (hO : NowOk n m v F T C) : ∀ c, c < 4 → pkN m v F T C / 2 ^ (9 * c) / 64 % 8 = F c ∧ pkN m v F T C / 2 ^ (9 * c) / 8 % 8 = T c ∧ pkN m v F T C / 2 ^ (9 * c) % 8 = C c := by
  obtain ⟨hm, hv, h, -⟩ := hO
  have hp := p4_le hm
  obtain ⟨a0, b0, c0⟩ := h 0 (by decide)
  obtain ⟨a1, b1, c1⟩ := h 1 (by decide)
  obtain ⟨a2, b2, c2⟩ := h 2 (by decide)
  obtain ⟨a3, b3, c3⟩ := h 3 (by decide)
  intro c hc
  unfold pkN
  rcases (show c = 0 ∨ c = 1 ∨ c = 2 ∨ c = 3 by omega) with rfl | rfl | rfl | rfl
  · simp only [Nat.mul_zero, Nat.pow_zero, Nat.div_one]; omega
  · simp only [show (2:Nat) ^ (9 * 1) = 512 from rfl]; omega
  · simp only [show (2:Nat) ^ (9 * 2) = 262144 from rfl]; omega
  · simp only [show (2:Nat) ^ (9 * 3) = 134217728 from rfl]; omega
theorem pk_row {n m v : Nat} {F T C : Nat → Nat} (hO : NowOk n m v F T C) : pkN m v F T C / 2 ^ 36 = 4 ^ m + v := by
  obtain ⟨hm, hv, h, -⟩ := hO
  obtain ⟨a0, b0, c0⟩ := h 0 (by decide)
  obtain ⟨a1, b1, c1⟩ := h 1 (by decide)
  obtain ⟨a2, b2, c2⟩ := h 2 (by decide)
  obtain ⟨a3, b3, c3⟩ := h 3 (by decide)
  unfold pkN
  omega
theorem pB_loop {N X : Nat} {F T C : Nat → Nat} (hX : X < 2 ^ 63) (hg : ∀ c, c < 4 → X / 2 ^ (9 * c) / 64 % 8 = F c ∧ X / 2 ^ (9 * c) / 8 % 8 = T c ∧ X / 2 ^ (9 * c) % 8 = C c) (kk : Int32 → (Nat → Int32) → (Nat → Int32) → (Nat → Int32) → Option ((Nat → Int32) × (Nat → Int32) × (Nat → Int32))) :
    ∀ (j g c : Nat) (P Q R : Nat → Int32), c + j = 4 → j < g → (∀ i, i < c → P i = nI (F i) ∧ Q i = nI (T i) ∧ R i = nI (C i)) → ∃ P' Q' R', f_X1_putBack_2 N (lN X) kk g (nI c) P Q R = kk (nI 4) P' Q' R' ∧ ∀ i, i < 4 → P' i = nI (F i) ∧ Q' i = nI (T i) ∧ R' i = nI (C i) := by
  intro j
  induction j with
  | zero =>
    intro g c P Q R hc hg2 hI
    obtain ⟨g', rfl⟩ : ∃ g', g = g' + 1 := ⟨g - 1, by omega⟩
    have : c = 4 := by omega
    subst this
    exact ⟨P, Q, R, by rw [f_X1_putBack_2, if_pos (by decide)], hI⟩
  | succ j ih =>
    intro g c P Q R hc hg2 hI
    obtain ⟨g', rfl⟩ : ∃ g', g = g' + 1 := ⟨g - 1, by omega⟩
    obtain ⟨h1, h2, h3⟩ := hg c (by omega)
    rw [f_X1_putBack_2, if_neg (by rw [L4, le_n (by omega) (by omega)]; omega), gI_n (by omega) (by omega), gI_n (by omega) (by omega), gI_n (by omega) (by omega), cl_n (by omega), L9, mul_n, wb_shr (by omega) (by omega), lN_i, bits3 _ 6 64 _ (by decide) rfl (Or.inl rfl), bits3 _ 3 8 _ (by decide) rfl (Or.inr rfl), bits0, h1, h2, h3, A1r]
    refine ih g' (c + 1) _ _ _ (by omega) (by omega) (fun i hi => ?_)
    by_cases e : i = c
    · subst e; rw [up_s, up_s, up_s]; exact ⟨rfl, rfl, rfl⟩
    · rw [up_n e, up_n e, up_n e]; exact hI i (by omega)
theorem gB {N n m v : Nat} {F T C : Nat → Nat} (sp : Int32) (bf bt bc : Nat → Int32) (hN : 200000 ≤ N) (hO : NowOk n m v F T C) : ∃ P Q R, f_X5_goBackTo N (lN (pkN m v F T C)) sp bf bt bc = some (nI (4 ^ m + v), P, Q, R) ∧ NowX m v F T C (nI (4 ^ m + v)) P Q R := by
  obtain ⟨P, Q, R, h1, h2⟩ := pB_loop (N := N) (pk_lt' hO).1 (pk_get hO) (fun z3_2 zvt_from_2 zvt_to_2 zvt_copies_2 => some (zvt_from_2, zvt_to_2, zvt_copies_2)) 4 N 0 bf bt bc (by omega) (by omega) (fun i hi => by omega)
  refine ⟨P, Q, R, ?_, rfl, h2⟩
  unfold f_X5_goBackTo f_X1_putBack
  have h3 : pkN m v F T C < 2 ^ 64 := by have := (pk_lt' hO).1; omega
  rw [L0, h1, Option.bind_some, show (36:Int32) = nI 36 from rfl, wb_shr h3 (by decide), lN_i, pk_row hO]
