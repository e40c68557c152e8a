/-! the reference: rows laid into a table -/
def kM (D F T I C : Nat → Nat) (l n s i : Nat) : Nat → Int32 := fun c => if c < n ∧ s.testBit c = true then nI (4096 * (pgl D F T I C l i n c).1 + (pgl D F T I C l i n c).2) else 0
theorem kM_iff {D F T I C : Nat → Nat} {l n s i j : Nat} (hB : HabB n D F T I C) (hl : l ≤ 5) (hi : i < 4 ^ l) (hj : j < 4 ^ l) : kM D F T I C l n s i = kM D F T I C l n s j ↔ alB D F T I C l n s i j = true := by
  rw [alB_iff]
  constructor
  · intro h c hc t
    obtain ⟨p1, p2⟩ := pgl_ok hB hi n (Nat.le_refl n) c hc
    obtain ⟨q1, q2⟩ := pgl_ok hB hj n (Nat.le_refl n) c hc
    have e := congrFun h c
    unfold kM at e
    rw [if_pos ⟨hc, t⟩, if_pos ⟨hc, t⟩, rM_eq (by omega) (by omega) p2 q2] at e
    exact e
  · intro h
    funext c
    unfold kM
    by_cases q : c < n ∧ s.testBit c = true
    · rw [if_pos q, if_pos q, h c q.1 q.2]
    · rw [if_neg q, if_neg q]
def hsh (κ : Nat → Int32) : Nat → Int32
  | 0 => 0
  | c + 1 => (31:Int32) * hsh κ c + (7:Int32) * κ c
def hM (κ : Nat → Int32) : Nat := (hsh κ 4).toBitVec.toNat
theorem hM_e (κ : Nat → Int32) : hsh κ 4 = nI (hM κ) := by
  apply Int32.toBitVec_inj.mp
  show _ = BitVec.ofNat 32 (hM κ)
  unfold hM
  simp
theorem M4 (k c : Nat) : ((4:Int32) * nI k) + nI c = nI (4 * k + c) := by rw [L4, mul_n, add_n]
/-- the four numbers of row k are written -/
theorem u60 {N n l s k : Nat} {D F T I C : Nat → Nat} {Q : Nat → Int32} (hn : n ≤ 4) (hs : s < 16) (hk : k < 1024) (hQ : PgM D F T I C l k n Q) (kk : Int32 → Int32 → (Nat → Int32) → Option (Int32 × (Nat → Int32) × (Nat → Int32) × (Nat → Int32))) :
    ∀ (j g c : Nat) (K : Nat → Int32), c + j = 4 → j < g → (∀ x, x < c → K (4 * k + x) = kM D F T I C l n s k x) → ∃ K', f_X6_unlike_60 N (nI s) (nI n) (nI k) Q kk g (hsh (kM D F T I C l n s k) c) (nI c) K = kk (hsh (kM D F T I C l n s k) 4) (nI 4) K' ∧ (∀ x, x < 4 → K' (4 * k + x) = kM D F T I C l n s k x) ∧ ∀ y, y < 4 * k → K' y = K y := by
  intro j
  induction j with
  | zero =>
    intro g c K hc hg hK
    obtain ⟨g', rfl⟩ : ∃ g', g = g' + 1 := ⟨g - 1, by omega⟩
    have : c = 4 := by omega
    subst this
    exact ⟨K, by rw [f_X6_unlike_60, if_pos (by decide)], hK, fun y _ => rfl⟩
  | succ j ih =>
    intro g c K hc hg hK
    obtain ⟨g', rfl⟩ : ∃ g', g = g' + 1 := ⟨g - 1, by omega⟩
    have go : ∀ x : Int32, x = kM D F T I C l n s k c → ∃ K', f_X6_unlike_60 N (nI s) (nI n) (nI k) Q kk g' (((31:Int32) * hsh (kM D F T I C l n s k) c) + ((7:Int32) * x)) (nI (c + 1)) (upd K (4 * k + c) x) = kk (hsh (kM D F T I C l n s k) 4) (nI 4) K' ∧ (∀ x, x < 4 → K' (4 * k + x) = kM D F T I C l n s k x) ∧ ∀ y, y < 4 * k → K' y = K y := by
      intro x hx
      subst hx
      obtain ⟨K', e1, e2, e3⟩ := ih g' (c + 1) (upd K (4 * k + c) (kM D F T I C l n s k c)) (by omega) (by omega) (fun x hx => by
        by_cases e : x = c
        · subst e; rw [up_s]
        · rw [up_n (by omega)]; exact hK x (by omega))
      refine ⟨K', e1, e2, fun y hy => ?_⟩
      rw [e3 y hy, up_n (by omega)]
    rw [f_X6_unlike_60, if_neg (by rw [L4, le_n (by omega) (by omega)]; omega)]
    simp only [M4, A1r, cl_n (show 4 * k + c < 2147483648 by omega), cl_n (show c < 2147483648 by omega), gI_n (show 4 * k + c < 4096 by omega) (show (4096:Nat) < 2147483648 by decide), gI_n (show c < 4 by omega) (show (4:Nat) < 2147483648 by decide), up_s]
    by_cases q : n ≤ c
    · rw [if_pos (by rw [le_n (by omega) (by omega)]; exact q)]
      exact go 0 (by unfold kM; rw [if_neg (by omega)])
    · rw [if_neg (by rw [le_n (by omega) (by omega)]; exact q), hasM N c (by omega) s hs, Option.bind_some]
      by_cases t : s.testBit c = true
      · rw [if_neg (by rw [if_pos t]; exact n10)]
        exact go (Q c) (by unfold kM; rw [if_pos ⟨by omega, t⟩]; exact hQ c (by omega))
      · rw [if_pos (by rw [if_neg t])]
        exact go 0 (by unfold kM; rw [if_neg (fun z => t z.2)])
/-- two rows' numbers held against each other -/
def sameB (f g : Nat → Int32) : Nat → Bool
  | 0 => true
  | c + 1 => sameB f g c && decide (f c = g c)
theorem sameB_iff (f g : Nat → Int32) : ∀ c, sameB f g c = true ↔ ∀ x, x < c → f x = g x := by
  intro c
  induction c with
  | zero => exact ⟨fun _ x hx => by omega, fun _ => rfl⟩
  | succ c ih =>
    rw [sameB, Bool.and_eq_true, ih, decide_eq_true_iff]
    constructor
    · rintro ⟨h1, h2⟩ x hx
      by_cases e : x = c
      · rw [e]; exact h2
      · exact h1 x (by omega)
    · intro h; exact ⟨fun x hx => h x (by omega), h c (by omega)⟩
theorem sa_loop {N i k : Nat} {K f g : Nat → Int32} (hi : i < 1024) (hk : k < 1024) (h1 : ∀ c, c < 4 → K (4 * i + c) = f c) (h2 : ∀ c, c < 4 → K (4 * k + c) = g c) (kk : Int32 → Int32 → Option Int32) :
    ∀ (j u c : Nat), c + j = 4 → j < u → f_X6_same_5 N (nI i) (nI k) K kk u (if sameB f g c = true then 1 else 0) (nI c) = kk (if sameB f g 4 = true then 1 else 0) (nI 4) := by
  intro j
  induction j with
  | zero =>
    intro u c hc hu
    obtain ⟨u', rfl⟩ : ∃ u', u = u' + 1 := ⟨u - 1, by omega⟩
    have : c = 4 := by omega
    subst this
    rw [f_X6_same_5, if_pos (by decide)]
  | succ j ih =>
    intro u c hc hu
    obtain ⟨u', rfl⟩ : ∃ u', u = u' + 1 := ⟨u - 1, by omega⟩
    have step := ih u' (c + 1) (by omega) (by omega)
    rw [f_X6_same_5, if_neg (by rw [L4, le_n (by omega) (by omega)]; omega)]
    simp only [M4, A1r, cl_n (show 4 * k + c < 2147483648 by omega), cl_n (show 4 * i + c < 2147483648 by omega), gI_n (show 4 * k + c < 4096 by omega) (show (4096:Nat) < 2147483648 by decide), gI_n (show 4 * i + c < 4096 by omega) (show (4096:Nat) < 2147483648 by decide), h1 c (by omega), h2 c (by omega)]
    by_cases q : sameB f g c = true
    · rw [if_neg (by rw [if_pos q]; exact n10)]
      by_cases e : f c = g c
      · rw [if_pos e]
        rw [sameB, q, decide_eq_true e, Bool.true_and, if_pos rfl] at step
        exact step
      · rw [if_neg e]
        rw [sameB, q, decide_eq_false e, Bool.true_and, if_neg Bool.noConfusion] at step
        exact step
    · rw [if_pos (by rw [if_neg q])]
      rw [Bool.not_eq_true] at q
      rw [sameB, q, Bool.false_and, if_neg Bool.noConfusion] at step
      exact step
theorem sa {N i k n : Nat} {K f g : Nat → Int32} (hN : 200000 ≤ N) (hi : i < 1024) (hk : k < 1024) (h1 : ∀ c, c < 4 → K (4 * i + c) = f c) (h2 : ∀ c, c < 4 → K (4 * k + c) = g c) : f_X6_same N (nI i) (nI k) K = some (if sameB f g 4 = true then 1 else 0) := by
  unfold f_X6_same
  have := sa_loop (N := N) hi hk h1 h2 (fun z3_5 z4_5 => gZ z3_5 (some z3_5)) 4 N 0 (by omega) (by omega)
  rw [show (if sameB f g 0 = true then (1:Int32) else 0) = 1 from if_pos rfl] at this
  refine this.trans ?_
  by_cases q : sameB f g 4 = true
  · rw [if_pos q, gZ_1]
  · rw [if_neg q, gZ_0]
theorem kM_same {D F T I C : Nat → Nat} {l n s i k : Nat} (hn : n ≤ 4) : sameB (kM D F T I C l n s i) (kM D F T I C l n s k) 4 = true ↔ kM D F T I C l n s i = kM D F T I C l n s k := by
  rw [sameB_iff]
  constructor
  · intro h
    funext c
    by_cases q : c < 4
    · exact h c q
    · unfold kM
      rw [if_neg (by omega), if_neg (by omega)]
  · intro h x _; rw [h]
def bM (D F T I C : Nat → Nat) (l n s : Nat) (A : Nat → Int32) : Nat → Option (Nat → Int32) := fun x => if A x = -9 then none else some (kM D F T I C l n s (A x).toNatClampNeg)
/-- the table when k rows were laid -/
def DrM (D F T I C : Nat → Nat) (l n s k : Nat) (A K : Nat → Int32) : Prop := (∀ x, x < 8192 → A x = -9 ∨ ∃ i, i < k ∧ A x = nI i) ∧ (∀ i, i < k → ∀ c, c < 4 → K (4 * i + c) = kM D F T I C l n s i c) ∧ Tab 8192 hM (bM D F T I C l n s A) (fun q => ∃ i, i < k ∧ kM D F T I C l n s i = q) ∧ cnt (fun x => (bM D F T I C l n s A x).isSome) 8192 ≤ k
theorem u144 {N n l s k dd : Nat} {D F T I C : Nat → Nat} {A K : Nat → Int32} (hN : 200000 ≤ N) (hn : n ≤ 4) (hk : k < 1024) (h1 : ∀ x, x < 8192 → A x = -9 ∨ ∃ i, i < k ∧ A x = nI i) (h2 : ∀ i, i < k + 1 → ∀ c, c < 4 → K (4 * i + c) = kM D F T I C l n s i c) (hdd : dd < 8192)
    (hb : ∀ d', d' < dd → bM D F T I C l n s A ((hM (kM D F T I C l n s k) + d') % 8192) ≠ none ∧ bM D F T I C l n s A ((hM (kM D F T I C l n s k) + d') % 8192) ≠ some (kM D F T I C l n s k)) (he : bM D F T I C l n s A ((hM (kM D F T I C l n s k) + dd) % 8192) = some (kM D F T I C l n s k) ∨ bM D F T I C l n s A ((hM (kM D F T I C l n s k) + dd) % 8192) = none) (kk : Int32 → Option (Int32 × (Nat → Int32) × (Nat → Int32) × (Nat → Int32))) :
    ∀ (j g d : Nat), d + j = dd → j < g → f_X6_unlike_144 N (nI k) A K kk g (nI ((hM (kM D F T I C l n s k) + d) % 8192)) = kk (nI ((hM (kM D F T I C l n s k) + dd) % 8192)) := by
  intro j
  induction j with
  | zero =>
    intro g d hd hg
    obtain ⟨g', rfl⟩ : ∃ g', g = g' + 1 := ⟨g - 1, by omega⟩
    have : d = dd := by omega
    subst this
    have hl : (hM (kM D F T I C l n s k) + d) % 8192 < 8192 := Nat.mod_lt _ (by decide)
    rw [f_X6_unlike_144]
    simp only [gI_n hl (show (8192:Nat) < 2147483648 by decide), cl_n (show (hM (kM D F T I C l n s k) + d) % 8192 < 2147483648 by omega)]
    rcases h1 _ hl with e | ⟨i, hi, e⟩
    · rw [if_pos e]
    · rw [if_neg (by rw [e, m9_n (by omega)]; exact id), e, sa (n := n) hN (by omega) hk (h2 i (by omega)) (h2 k (by omega)), Option.bind_some]
      have h9 : bM D F T I C l n s A ((hM (kM D F T I C l n s k) + d) % 8192) = some (kM D F T I C l n s i) := by
        unfold bM
        rw [if_neg (by rw [e, m9_n (by omega)]; exact id), e, cl_n (by omega)]
      rw [h9] at he
      rcases he with he | he
      · rw [if_neg (by rw [if_pos ((kM_same hn).mpr (Option.some.inj he))]; exact n10)]
      · cases he
  | succ j ih =>
    intro g d hd hg
    obtain ⟨g', rfl⟩ : ∃ g', g = g' + 1 := ⟨g - 1, by omega⟩
    have hl : (hM (kM D F T I C l n s k) + d) % 8192 < 8192 := Nat.mod_lt _ (by decide)
    obtain ⟨n1, n2⟩ := hb d (by omega)
    rw [f_X6_unlike_144]
    simp only [gI_n hl (show (8192:Nat) < 2147483648 by decide), cl_n (show (hM (kM D F T I C l n s k) + d) % 8192 < 2147483648 by omega)]
    rcases h1 _ hl with e | ⟨i, hi, e⟩
    · exact absurd (show bM D F T I C l n s A ((hM (kM D F T I C l n s k) + d) % 8192) = none by unfold bM; rw [if_pos e]) n1
    · have h9 : bM D F T I C l n s A ((hM (kM D F T I C l n s k) + d) % 8192) = some (kM D F T I C l n s i) := by
        unfold bM
        rw [if_neg (by rw [e, m9_n (by omega)]; exact id), e, cl_n (by omega)]
      rw [h9] at n2
      rw [if_neg (by rw [e, m9_n (by omega)]; exact id), e, sa (n := n) hN (by omega) hk (h2 i (by omega)) (h2 k (by omega)), Option.bind_some, if_pos (by rw [if_neg (fun z => n2 (by rw [(kM_same hn).mp z]))]), A1r, and8191, show ((hM (kM D F T I C l n s k) + d) % 8192 + 1) % 8192 = (hM (kM D F T I C l n s k) + (d + 1)) % 8192 by omega]
      exact ih g' (d + 1) (by omega) (by omega)
