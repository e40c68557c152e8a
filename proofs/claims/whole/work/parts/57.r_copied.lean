/-! from whom a clerk may have copied -/
def hg (C : Nat → Nat) (c : Nat) : Nat → Nat → Bool
  | 0, _ => false
  | k + 1, o => if o = c then true else if C o = 0 then false else hg C c k (C o - 1)
theorem has_y {N n o : Nat} (hn : n ≤ 4) (h : o < n) : f_X1_has N (nI o) (nI n) = some 1 := by
  unfold f_X1_has
  rw [if_neg (nI_pos (by omega)), if_neg (by rw [le_n (by omega) (by omega)]; omega)]
theorem has_m1 {N n : Nat} : f_X1_has N ((0:Int32) - (1:Int32)) (nI n) = some 0 := by
  unfold f_X1_has
  rw [if_pos (by decide)]
theorem hang_go {N n c : Nat} {C : Nat → Nat} {bc : Nat → Int32} (hn : n ≤ 4) (hc : c < n) (hC : ∀ j, j < n → C j ≤ j ∧ bc j = nI (C j)) : ∀ (k g o s : Nat), o < n → o < k → s + o < 4 → k < g → f_X1_hangsOn_5 N (nI c) (nI n) bc (fun z3_5 z4_5 => some (0:Int32)) g (nI o) (nI s) = some (if hg C c k o = true then 1 else 0) := by
  intro k
  induction k with
  | zero => intro g o s _ h; omega
  | succ k ih =>
    intro g o s ho hk hs hg'
    obtain ⟨g', rfl⟩ : ∃ g', g = g' + 1 := ⟨g - 1, by omega⟩
    rw [f_X1_hangsOn_5, if_neg (by rw [L4, le_n (by omega) (by omega)]; omega), has_y hn ho, Option.bind_some, if_neg n10, gI_n (by omega) (by omega), cl_n (by omega), (hC o ho).2, A1r]
    unfold hg
    by_cases e : o = c
    · rw [if_pos (by rw [e]), if_pos e, if_pos rfl]
    · rw [if_neg (by rw [eq_n (by omega) (by omega)]; exact e), if_neg e]
      have hCo := (hC o ho).1
      by_cases z : C o = 0
      · rw [if_pos z, z, if_neg (show ¬ (false = true) from Bool.noConfusion)]
        obtain ⟨g'', rfl⟩ : ∃ g'', g' = g'' + 1 := ⟨g' - 1, by omega⟩
        rw [f_X1_hangsOn_5, show nI 0 = (0:Int32) from rfl, has_m1, Option.bind_some, if_pos z00]
        split <;> rfl
      · rw [if_neg z, L1, sub_n (by omega)]
        exact ih g' (C o - 1) (s + 1) (by omega) (by omega) (by omega) (by omega)
theorem hang {N n c o : Nat} {C : Nat → Nat} {bc : Nat → Int32} (hN : 200000 ≤ N) (hn : n ≤ 4) (hc : c < n) (hC : ∀ j, j < n → C j ≤ j ∧ bc j = nI (C j)) (ho : o < n) : f_X1_hangsOn N (nI o) (nI c) (nI n) bc = some (if hg C c 4 o = true then 1 else 0) := by
  unfold f_X1_hangsOn
  exact hang_go hn hc hC 4 N o 0 ho (by omega) (by omega) (by omega)
theorem cop_go {N n c : Nat} {C : Nat → Nat} {mn : Nat → Int32} (hn : n ≤ 4) (hc : c < n) (hC : ∀ j, j < n → C j ≤ j ∧ mn (9 + j) = mN (C j)) : ∀ (k g x : Nat), x ≤ k → x ≤ n → k < g → f_X6_copies_10 N (nI c) mn (fun z3_10 => if z3_10 = nI c then some (1:Int32) else some (0:Int32)) g (mN x) = some (if x ≠ 0 ∧ hg C c k (x - 1) = true then 1 else 0) := by
  intro k
  induction k with
  | zero =>
    intro g x hx _ hg'
    obtain ⟨g', rfl⟩ : ∃ g', g = g' + 1 := ⟨g - 1, by omega⟩
    have : x = 0 := by omega
    subst this
    rw [f_X6_copies_10, mN_0, if_pos rfl, if_neg (fun z => by have := m9_n (a := c) (by omega); rw [← z] at this; exact (this ▸ rfl : False)), if_neg (fun z => absurd rfl z.1)]
  | succ k ih =>
    intro g x hx hxn hg'
    obtain ⟨g', rfl⟩ : ∃ g', g = g' + 1 := ⟨g - 1, by omega⟩
    by_cases z : x = 0
    · subst z
      rw [f_X6_copies_10, mN_0, if_pos rfl, if_neg (fun z => by have := m9_n (a := c) (by omega); rw [← z] at this; exact (this ▸ rfl : False)), if_neg (fun z => absurd rfl z.1)]
    · rw [f_X6_copies_10, mN_s z, if_neg (by rw [m9_n (by omega)]; exact id), A9, gI_n (by omega) (by omega), cl_n (by omega)]
      unfold hg
      by_cases e : x - 1 = c
      · rw [if_pos (by rw [e]), if_pos (by rw [e]), if_pos ⟨z, by rw [if_pos e]⟩]
      · rw [if_neg (by rw [eq_n (by omega) (by omega)]; exact e), (hC _ (by omega)).2, if_neg e]
        have hCo := (hC (x - 1) (by omega)).1
        rw [ih g' (C (x - 1)) (by omega) (by omega) (by omega)]
        congr 1
        by_cases y : C (x - 1) = 0
        · rw [if_neg (fun q => q.1 y), if_pos y, if_neg (fun q => Bool.noConfusion q.2)]
        · rw [if_neg y]
          by_cases u : hg C c k (C (x - 1) - 1) = true
          · rw [if_pos ⟨y, u⟩, if_pos ⟨z, u⟩]
          · rw [if_neg (fun q => u q.2), if_neg (fun q => u q.2)]
theorem cop {N n c o : Nat} {C : Nat → Nat} {mn : Nat → Int32} (hN : 200000 ≤ N) (hn : n ≤ 4) (hc : c < n) (hC : ∀ j, j < n → C j ≤ j ∧ mn (9 + j) = mN (C j)) (ho : o < n) (hoc : o ≠ c) : f_X6_copies N (nI o) (nI c) mn = some (if hg C c 4 o = true then 1 else 0) := by
  unfold f_X6_copies
  have hCo := (hC o ho).1
  rw [A9, gI_n (by omega) (by omega), cl_n (by omega), (hC o ho).2, cop_go hn hc hC 3 N (C o) (by omega) (by omega) (by omega)]
  congr 1
  rw [show hg C c 4 o = (if o = c then true else if C o = 0 then false else hg C c 3 (C o - 1)) from rfl, if_neg hoc]
  by_cases y : C o = 0
  · rw [if_neg (fun q => q.1 y), if_pos y, if_neg (fun q => Bool.noConfusion q)]
  · rw [if_neg y]
    by_cases u : hg C c 3 (C o - 1) = true
    · rw [if_pos ⟨y, u⟩, if_pos u]
    · rw [if_neg (fun q => u q.2), if_neg u]
theorem hg_self {C : Nat → Nat} {c : Nat} : hg C c 4 c = true := by
  rw [show hg C c 4 c = (if c = c then true else if C c = 0 then false else hg C c 3 (C c - 1)) from rfl, if_pos rfl]
def bb (p : Nat → Bool) : Nat → Nat
  | 0 => 0
  | c + 1 => if p c = true then bb p c + 2 ^ c else bb p c
theorem bb_y {p : Nat → Bool} {c : Nat} (h : p c = true) : bb p (c + 1) = bb p c + 2 ^ c := by rw [bb, if_pos h]
theorem bb_f {p : Nat → Bool} {c : Nat} (h : ¬ p c = true) : bb p (c + 1) = bb p c := by rw [bb, if_neg h]
theorem bb_lt (p : Nat → Bool) : ∀ c, bb p c < 2 ^ c := by
  intro c
  induction c with
  | zero => exact Nat.one_pos
  | succ c ih => unfold bb; split <;> rw [Nat.pow_succ] <;> omega
theorem or3 {x a c : Nat} (hx : x ≤ 1) (hc : c < 4) (ha : a < 2 ^ c) : nI (16 * x + a) ||| ((1:Int32) <<< (nI c &&& 31)) = nI (16 * x + (a + 2 ^ c)) := by
  have h16 : 2 ^ c < 16 := Nat.pow_lt_pow_right (n := 4) (a := 2) (by decide) hc
  rw [or1 c (by omega) (16 * x + a) (by omega) ?_, Nat.add_assoc]
  rcases (show c = 0 ∨ c = 1 ∨ c = 2 ∨ c = 3 by omega) with rfl | rfl | rfl | rfl
  · simp only [Nat.pow_zero] at ha ⊢; omega
  · simp only [Nat.reducePow] at ha ⊢; omega
  · simp only [Nat.reducePow] at ha ⊢; omega
  · simp only [Nat.reducePow] at ha ⊢; omega
def cpP (D F T I C : Nat → Nat) (m v n c : Nat) (ab : Nat × Nat) (o : Nat) : Bool := !hg C c 4 o && decide (wrt (D c) (F c) (T c) (I c) (pgl D F T I C m v n o).1 (pgl D F T I C m v n o).2 (pgl D F T I C m v n o).1 = ab)
theorem cpX_loop {N n m v c a b x : Nat} {D F T I C : Nat → Nat} {bd bf bt bi bc to P : Nat → Int32} (hN : 200000 ≤ N) (hB : HabB n D F T I C) (hX : HabX n D F T I C bd bf bt bi bc) (hm : m ≤ 6) (hv : v < 4 ^ m) (hP : PgX D F T I C m v n P) (hc : c < n) (ha : a ≤ 6) (hb : b < 4 ^ a) (hto : to c = nI (4 ^ a + b)) (hx : x ≤ 1) (kk : Int32 → Int32 → Option (Int32 × (Nat → Int32))) :
    ∀ (j g o : Nat), o + j = n → j < g → f_X5_copied_66 N (nI c) (nI n) bd bf bt bi bc to P kk g (nI (16 * x + bb (cpP D F T I C m v n c (a, b)) o)) (nI o) = kk (nI (16 * x + bb (cpP D F T I C m v n c (a, b)) n)) (nI n) := by
  have hn := hB.1
  intro j
  induction j with
  | zero =>
    intro g o ho hg'
    obtain ⟨g', rfl⟩ : ∃ g', g = g' + 1 := ⟨g - 1, by omega⟩
    have : o = n := by omega
    subst this
    rw [f_X5_copied_66, if_pos (by rw [le_n (by omega) (by omega)]; omega)]
  | succ j ih =>
    intro g o ho hg'
    obtain ⟨g', rfl⟩ : ∃ g', g = g' + 1 := ⟨g - 1, by omega⟩
    obtain ⟨p1, p2⟩ := pgl_ok hB hv n (by omega) o (by omega)
    have hbc := hB.2 c hc
    obtain ⟨q1, q2⟩ := wrt_ok (d := D c) (f := F c) (ti := I c) (m := (pgl D F T I C m v n o).1) (v := (pgl D F T I C m v n o).2) hbc.2.2.1 hbc.2.2.2.2.2 (pgl D F T I C m v n o).1
    rw [f_X5_copied_66, if_neg (by rw [le_n (by omega) (by omega)]; omega), hang hN hn hc (fun j hj => ⟨(hB.2 j hj).2.2.2.2.1, (hX j hj).2.2.2.2⟩) (by omega), Option.bind_some, A1r]
    simp only [gI_n (show o < 4 by omega) (show (4:Nat) < 2147483648 by decide), gI_n (show c < 4 by omega) (show (4:Nat) < 2147483648 by decide), cl_n (show o < 2147483648 by omega), cl_n (show c < 2147483648 by omega)]
    by_cases h : hg C c 4 o = true
    · rw [if_neg (by rw [if_pos h]; exact n10)]
      have e := bb_f (p := cpP D F T I C m v n c (a, b)) (c := o) (by unfold cpP; rw [h]; exact Bool.noConfusion)
      rw [← e]
      exact ih g' (o + 1) (by omega) (by omega)
    · rw [if_pos (by rw [if_neg h]), hP o (by omega), pF hN hB hX hc (by omega) p2, Option.bind_some, hto]
      by_cases w : wrt (D c) (F c) (T c) (I c) (pgl D F T I C m v n o).1 (pgl D F T I C m v n o).2 (pgl D F T I C m v n o).1 = (a, b)
      · rw [if_pos (by rw [rC_eq (by omega) ha q2 hb]; exact w), or3 hx (by omega) (bb_lt _ o)]
        have e := bb_y (p := cpP D F T I C m v n c (a, b)) (c := o) (by unfold cpP; rw [Bool.not_eq_true] at h; rw [h, decide_eq_true w]; rfl)
        rw [← e]
        exact ih g' (o + 1) (by omega) (by omega)
      · rw [if_neg (by rw [rC_eq (by omega) ha q2 hb]; exact w)]
        have e := bb_f (p := cpP D F T I C m v n c (a, b)) (c := o) (by unfold cpP; rw [decide_eq_false w, Bool.and_false]; exact Bool.noConfusion)
        rw [← e]
        exact ih g' (o + 1) (by omega) (by omega)
theorem orz (x : Int32) : x ||| (0:Int32) = x := Int32.or_zero
theorem cpM_loop {N n m v c a b : Nat} {D F T I C : Nat → Nat} {md mi mn mt P : Nat → Int32} (hN : 200000 ≤ N) (hB : HabB n D F T I C) (hM : HabM n D F T I C md mi mn) (hm : m ≤ 6) (hv : v < 4 ^ m) (hP : PgM D F T I C m v n P) (hc : c < n) (ha : a ≤ 6) (hb : b < 4 ^ a) (hto : mt c = nI (4096 * a + b)) (h0 : mn 0 = nI (4096 * m + v)) (kk : Int32 → Int32 → Option (Int32 × (Nat → Int32))) :
    ∀ (j g o : Nat), o + j = 4 → j + 1 < g → f_X6_copied_40 N (nI c) (nI n) md mi mn mt P kk g (nI (bb (cpP D F T I C m v n c (a, b)) (if o < n then o else n))) (nI o) = kk (nI (16 * (if wrt (D c) (F c) (T c) (I c) m v m = (a, b) then 1 else 0) + bb (cpP D F T I C m v n c (a, b)) n)) (nI 5) := by
  have hn := hB.1
  have hbc := hB.2 c hc
  intro j
  induction j with
  | zero =>
    intro g o ho hg'
    obtain ⟨g', rfl⟩ : ∃ g', g = (g' + 1) + 1 := ⟨g - 2, by omega⟩
    have : o = 4 := by omega
    subst this
    obtain ⟨q1, q2⟩ := wrt_ok (d := D c) (f := F c) (ti := I c) (m := m) (v := v) hbc.2.2.1 hbc.2.2.2.2.2 m
    have e4 : (if 4 < n then 4 else n) = n := if_neg (by omega)
    have hlt := bb_lt (cpP D F T I C m v n c (a, b)) n
    have h16 : 2 ^ n ≤ 16 := Nat.pow_le_pow_right (n := 2) (by decide) hn
    rw [f_X6_copied_40, if_neg (by decide), if_pos (show nI 4 = (4:Int32) from rfl), A1r, A1, A5, e4]
    simp only [gI_n (show c < 4 by omega) (show (4:Nat) < 2147483648 by decide), gI_n (show 1 + c < 13 by omega) (show (13:Nat) < 2147483648 by decide), gI_n (show 5 + c < 13 by omega) (show (13:Nat) < 2147483648 by decide), cl_n (show c < 2147483648 by omega), cl_n (show 1 + c < 2147483648 by omega), cl_n (show 5 + c < 2147483648 by omega)]
    obtain ⟨u1, u2, u3, u4, u5⟩ := hM c hc
    rw [h0, u1, u2, u3, u4, wr hN hm hv hbc.1 hbc.2.1 hbc.2.2.1 hbc.2.2.2.1 hbc.2.2.2.2.2, Option.bind_some, hto, orz]
    by_cases w : wrt (D c) (F c) (T c) (I c) m v m = (a, b)
    · rw [if_pos (by rw [rM_eq (by omega) ha q2 hb]; exact w), if_pos w, or1 4 (by omega) _ (by omega) (by simp only [Nat.reducePow]; omega), f_X6_copied_40, if_pos (by decide), Nat.add_comm (bb _ n)]
    · rw [if_neg (by rw [rM_eq (by omega) ha q2 hb]; exact w), if_neg w, f_X6_copied_40, if_pos (by decide), Nat.mul_zero, Nat.zero_add]
  | succ j ih =>
    intro g o ho hg'
    obtain ⟨g', rfl⟩ : ∃ g', g = g' + 1 := ⟨g - 1, by omega⟩
    have step := ih g' (o + 1) (by omega) (by omega)
    rw [f_X6_copied_40, if_neg (by rw [L5, le_n (by omega) (by omega)]; omega), if_neg (by rw [L4, eq_n (by omega) (by omega)]; omega), A1r, A1, A5, orz]
    by_cases hon : n ≤ o
    · rw [if_pos (by rw [le_n (by omega) (by omega)]; exact hon)]
      rw [if_neg (by omega)] at step ⊢
      exact step
    · obtain ⟨p1, p2⟩ := pgl_ok hB hv n (by omega) o (by omega)
      obtain ⟨q1, q2⟩ := wrt_ok (d := D c) (f := F c) (ti := I c) (m := (pgl D F T I C m v n o).1) (v := (pgl D F T I C m v n o).2) hbc.2.2.1 hbc.2.2.2.2.2 (pgl D F T I C m v n o).1
      have e1 : (if o + 1 < n then o + 1 else n) = o + 1 := by split <;> omega
      rw [e1] at step
      rw [if_neg (by rw [le_n (by omega) (by omega)]; exact hon), if_pos (show o < n by omega)]
      by_cases eoc : o = c
      · subst eoc
        rw [if_pos rfl]
        rw [bb_f (by unfold cpP; rw [hg_self]; exact Bool.noConfusion)] at step
        exact step
      · rw [if_neg (by rw [eq_n (by omega) (by omega)]; exact eoc), cop hN hn hc (fun j hj => ⟨(hB.2 j hj).2.2.2.2.1, (hM j hj).2.2.2.2⟩) (by omega) eoc, Option.bind_some]
        simp only [gI_n (show c < 4 by omega) (show (4:Nat) < 2147483648 by decide), gI_n (show o < 4 by omega) (show (4:Nat) < 2147483648 by decide), gI_n (show 1 + c < 13 by omega) (show (13:Nat) < 2147483648 by decide), gI_n (show 5 + c < 13 by omega) (show (13:Nat) < 2147483648 by decide), cl_n (show c < 2147483648 by omega), cl_n (show o < 2147483648 by omega), cl_n (show 1 + c < 2147483648 by omega), cl_n (show 5 + c < 2147483648 by omega)]
        by_cases h : hg C c 4 o = true
        · rw [if_neg (by rw [if_pos h]; exact n10)]
          rw [bb_f (by unfold cpP; rw [h]; exact Bool.noConfusion)] at step
          exact step
        · obtain ⟨u1, u2, u3, u4, u5⟩ := hM c hc
          rw [if_pos (by rw [if_neg h]), hP o (by omega), u1, u2, u3, u4, wr hN (by omega) p2 hbc.1 hbc.2.1 hbc.2.2.1 hbc.2.2.2.1 hbc.2.2.2.2.2, Option.bind_some, hto]
          by_cases w : wrt (D c) (F c) (T c) (I c) (pgl D F T I C m v n o).1 (pgl D F T I C m v n o).2 (pgl D F T I C m v n o).1 = (a, b)
          · rw [if_pos (by rw [rM_eq (by omega) ha q2 hb]; exact w), or2 (by omega) (bb_lt _ o)]
            rw [bb_y (by unfold cpP; rw [Bool.not_eq_true] at h; rw [h, decide_eq_true w]; rfl)] at step
            exact step
          · rw [if_neg (by rw [rM_eq (by omega) ha q2 hb]; exact w)]
            rw [bb_f (by unfold cpP; rw [decide_eq_false w, Bool.and_false]; exact Bool.noConfusion)] at step
            exact step
