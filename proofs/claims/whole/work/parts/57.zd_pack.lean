/-! pages of a set of clerks in one number -/
def pkS (s : Nat) (f : Nat → Nat) : Nat → Nat
  | 0 => 1
  | c + 1 => if s.testBit c = true then 8192 * pkS s f c + f c else pkS s f c
theorem pkS_lt {s n : Nat} {f : Nat → Nat} (h : ∀ c, c < n → f c < 8192) : ∀ c, c ≤ n → 0 < pkS s f c ∧ pkS s f c < 2 * 8192 ^ c := by
  intro c
  induction c with
  | zero => intro _; exact ⟨Nat.one_pos, by show 1 < 2 * 8192 ^ 0; decide⟩
  | succ c ih =>
    intro hc
    obtain ⟨h1, h2⟩ := ih (by omega)
    have h3 := h c (by omega)
    rw [pkS, Nat.pow_succ]
    split
    · omega
    · omega
theorem pkS_inj {s n : Nat} {f g : Nat → Nat} (hf : ∀ c, c < n → f c < 8192) (hg : ∀ c, c < n → g c < 8192) : ∀ c, c ≤ n → (pkS s f c = pkS s g c ↔ ∀ i, i < c → s.testBit i = true → f i = g i) := by
  intro c
  induction c with
  | zero => intro _; exact ⟨fun _ i hi => by omega, fun _ => rfl⟩
  | succ c ih =>
    intro hc
    have a := hf c (by omega)
    have b := hg c (by omega)
    have ih' := ih (by omega)
    rw [pkS, pkS]
    by_cases t : s.testBit c = true
    · rw [if_pos t, if_pos t]
      constructor
      · intro h i hi ti
        by_cases e : i = c
        · subst e; omega
        · exact (ih'.mp (by omega)) i (by omega) ti
      · intro h
        have := ih'.mpr (fun i hi ti => h i (by omega) ti)
        have := h c (by omega) t
        omega
    · rw [if_neg t, if_neg t, ih']
      constructor
      · intro h i hi ti
        by_cases e : i = c
        · subst e; exact absurd ti t
        · exact h i (by omega) ti
      · intro h i hi ti
        exact h i (by omega) ti
theorem toL (x : Nat) (h : x < 8192) : (nI x).toInt64 = lN x := nI_l (by omega)
theorem pO_loop {N n s : Nat} {f : Nat → Nat} {P : Nat → Int32} (hn : n ≤ 4) (hs : s < 16) (h : ∀ c, c < n → f c < 8192) (hP : ∀ c, c < n → P c = nI (f c)) (kk : Int64 → Int32 → Option Int64) :
    ∀ (j g c : Nat), c + j = n → j < g → f_X1_pagesOf_5 N (nI s) (nI n) P kk g (lN (pkS s f c)) (nI c) = kk (lN (pkS s f n)) (nI n) := by
  intro j
  induction j with
  | zero =>
    intro g c hc hg
    obtain ⟨g', rfl⟩ : ∃ g', g = g' + 1 := ⟨g - 1, by omega⟩
    have : c = n := by omega
    subst this
    rw [f_X1_pagesOf_5, if_pos (by rw [le_n (by omega) (by omega)]; omega)]
  | succ j ih =>
    intro g c hc hg
    obtain ⟨g', rfl⟩ : ∃ g', g = g' + 1 := ⟨g - 1, by omega⟩
    have step := ih g' (c + 1) (by omega) (by omega)
    have hf := h c (by omega)
    obtain ⟨l1, l2⟩ := pkS_lt (s := s) h c (by omega)
    have l3 : 8192 ^ c ≤ 8192 ^ 3 := Nat.pow_le_pow_right (n := 8192) (by decide) (by omega)
    have l4 : (8192:Nat) ^ 3 = 549755813888 := rfl
    rw [f_X1_pagesOf_5, if_neg (by rw [le_n (by omega) (by omega)]; omega), A1r]
    by_cases t : s.testBit c = true
    · rw [if_neg (by rw [bitS (by omega) (by omega), t]; exact Bool.noConfusion), gI_n (by omega) (by omega), cl_n (by omega), hP c (by omega), toL _ hf, show (lN (pkS s f c) <<< ((13:Int32).toInt64 &&& 63)) = lN (pkS s f c * 2 ^ 13) from wb_shl _ (by decide), Nat.mul_comm, lor_2 (i := 13) hf (by show 8192 * pkS s f c + f c < 9223372036854775808; omega)]
      rw [pkS, if_pos t] at step
      exact step
    · rw [if_pos (by rw [bitS (by omega) (by omega)]; exact Bool.not_eq_true _ ▸ t)]
      rw [pkS, if_neg t] at step
      exact step
theorem pO {N n s : Nat} {f : Nat → Nat} {P : Nat → Int32} (hN : 200000 ≤ N) (hn : n ≤ 4) (hs : s < 16) (h : ∀ c, c < n → f c < 8192) (hP : ∀ c, c < n → P c = nI (f c)) : f_X1_pagesOf N (nI s) (nI n) P = some (lN (pkS s f n)) := by
  unfold f_X1_pagesOf
  exact pO_loop hn hs h hP (fun z2_5 z4_5 => some z2_5) n N 0 (by omega) (by omega)
