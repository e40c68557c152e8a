/-! the row of acts -/
theorem kA_loop {N nx : Nat} {now : Nat → Int32} (hnx : nx < 16) (kk : Int32 → (Nat → Int32) → Option (Int32 × Int32 × (Nat → Int32))) :
    ∀ (j g c : Nat) (R : Nat → Int32), c + j = 13 → j < g → ∃ R', f_X6_keepAct_2 N (nI nx) now kk g (nI c) R = kk (nI 13) R' ∧ (∀ k, c ≤ k → k < 13 → R' (13 * nx + k) = now k) ∧ ∀ i, (i < 13 * nx + c ∨ 13 * nx + 13 ≤ i) → R' i = R i := by
  intro j
  induction j with
  | zero =>
    intro g c R hc hg
    obtain ⟨g', rfl⟩ : ∃ g', g = g' + 1 := ⟨g - 1, by omega⟩
    have : c = 13 := by omega
    subst this
    exact ⟨R, by rw [f_X6_keepAct_2, if_pos (by decide)], fun k h1 h2 => by omega, fun i _ => rfl⟩
  | succ j ih =>
    intro g c R hc hg
    obtain ⟨g', rfl⟩ : ∃ g', g = g' + 1 := ⟨g - 1, by omega⟩
    obtain ⟨R', h1, h2, h3⟩ := ih g' (c + 1) (upd R (13 * nx + c) (now c)) (by omega) (by omega)
    refine ⟨R', ?_, fun k k1 k2 => ?_, fun i hi => ?_⟩
    · rw [f_X6_keepAct_2, if_neg (by rw [L13, le_n (by omega) (by omega)]; omega), gI_n (by omega) (by omega), L13, mul_n, add_n, gI_n (by omega) (by omega), cl_n (by omega), cl_n (by omega), A1r, h1]
    · by_cases e : k = c
      · subst e
        rw [h3 _ (by omega), up_s]
      · exact h2 k (by omega) k2
    · rw [h3 i (by omega), up_n (by omega)]
theorem kA {N la nx : Nat} {now row : Nat → Int32} (hN : 200000 ≤ N) (hla : la ≤ 16) (hnx : nx < 16) : ∃ R', f_X6_keepAct N (nI la) (nI nx) now row = some (nI (if la < 16 then la + 1 else 16), nI ((nx + 1) % 16), R') ∧ (∀ k, k < 13 → R' (13 * nx + k) = now k) ∧ ∀ i, (i < 13 * nx ∨ 13 * nx + 13 ≤ i) → R' i = row i := by
  unfold f_X6_keepAct
  obtain ⟨R', h1, h2, h3⟩ := kA_loop (N := N) (now := now) hnx (fun z1_2 zvt_row_2 => if (16:Int32) ≤ nI la then some ((16:Int32), ((nI nx + (1:Int32)) - (nI nx + (1:Int32)) / (16:Int32) * (16:Int32)), zvt_row_2) else some ((nI la + (1:Int32)), ((nI nx + (1:Int32)) - (nI nx + (1:Int32)) / (16:Int32) * (16:Int32)), zvt_row_2)) 13 N 0 row (by omega) (by omega)
  refine ⟨R', ?_, fun k hk => h2 k (by omega) hk, fun i hi => h3 i (by omega)⟩
  rw [L0, h1]
  rw [A1r, L16, rem_n (by omega) (by omega) (by omega), A1r]
  by_cases h : la < 16
  · rw [if_neg (by rw [le_n (by omega) (by omega)]; omega), if_pos h]
  · rw [if_pos (by rw [le_n (by omega) (by omega)]; omega), if_neg h]
theorem upL_s {f : Nat → Int64} {k : Nat} {x : Int64} : vp_updL f k x k = x := pk_uLs
theorem upL_n {f : Nat → Int64} {k j : Nat} {x : Int64} (h : j ≠ k) : vp_updL f k x j = f j := pk_uLn h
theorem rem_ {N la : Nat} (x : Int64) (ab : Nat → Int64) (hla : la ≤ 16) : ∃ ab', f_X0_remember N x (nI la) ab = some (nI (if la < 16 then la + 1 else 16), ab') ∧ ab' (if la < 16 then la else 15) = x ∧ ∀ i, i < (if la < 16 then la else 15) → ab' i = ab (if la < 16 then i else i + 1) := by
  unfold f_X0_remember
  by_cases h : la < 16
  · rw [if_pos (by rw [L16, lt_n (by omega) (by omega)]; omega), gI_n (by omega) (by omega), cl_n (by omega), A1r]
    simp only [if_pos h]
    exact ⟨_, rfl, upL_s, fun i hi => upL_n (by omega)⟩
  · rw [if_neg (by rw [L16, lt_n (by omega) (by omega)]; omega), L15, gI_n (by omega) (by omega), cl_n (by omega), A1r]
    simp only [if_neg h]
    refine ⟨_, rfl, upL_s, fun i hi => ?_⟩
    rw [upL_n (by omega), pk_cpy_in (by omega) (by omega)]
    congr 1
    omega
theorem OldR_cong {n : Nat} {x : Int64} {f g : Nat → Int32} (hn : n ≤ 4) (h : OldR n x f) (hg : ∀ k, k < 13 → g k = f k) : OldR n x g := by
  obtain ⟨m, v, F, T, C, h1, h2, h3, h4⟩ := h
  refine ⟨m, v, F, T, C, h1, h2, by rw [hg 0 (by decide)]; exact h3, fun c hc => ?_⟩
  obtain ⟨q1, q2, q3⟩ := h4 c hc
  exact ⟨by rw [hg (1 + c) (by omega)]; exact q1, by rw [hg (5 + c) (by omega)]; exact q2, by rw [hg (9 + c) (by omega)]; exact q3⟩
/-- an act is remembered -/
theorem push {N n m v la nx : Nat} {F T C : Nat → Nat} {as : Int32} {ab : Nat → Int64} {ma mx : Int32} {row now : Nat → Int32} (hN : 200000 ≤ N) (hn : n ≤ 4) (hA : ActsR n la nx as ab ma mx row) (hO : NowOk n m v F T C) (hM : NowM n m v F T C now) : ∃ as' ab' ma' mx' row' la' nx', f_X0_remember N (lN (pkN m v F T C)) as ab = some (as', ab') ∧ f_X6_keepAct N ma mx now row = some (ma', mx', row') ∧ ActsR n la' nx' as' ab' ma' mx' row' := by
  obtain ⟨hla, hnx, rfl, rfl, rfl, h⟩ := hA
  obtain ⟨row', r1, r2, r3⟩ := kA (N := N) (now := now) (row := row) hN hla hnx
  obtain ⟨ab', a1, a2, a3⟩ := rem_ (N := N) (lN (pkN m v F T C)) ab hla
  refine ⟨_, _, _, _, _, if la < 16 then la + 1 else 16, (nx + 1) % 16, a1, r1, ?_⟩
  refine ⟨by split <;> omega, by omega, rfl, rfl, rfl, fun i hi => ?_⟩
  by_cases hl : la < 16
  · simp only [if_pos hl] at a2 a3 hi ⊢
    have es : ((nx + 1) % 16 + 16 - (la + 1) + i) % 16 = (nx + 16 - la + i) % 16 := by omega
    rw [es]
    by_cases e : i = la
    · subst e
      rw [a2, show (nx + 16 - i + i) % 16 = nx by omega]
      exact OldR_cong hn ⟨m, v, F, T, C, hO, rfl, hM⟩ (fun k hk => r2 k hk)
    · rw [a3 i (by omega)]
      refine OldR_cong hn (h i (by omega)) (fun k hk => r3 _ ?_)
      have : (nx + 16 - la + i) % 16 ≠ nx := by omega
      omega
  · have hl16 : la = 16 := by omega
    subst hl16
    simp only [if_neg hl] at a2 a3 hi ⊢
    have es : ((nx + 1) % 16 + 16 - 16 + i) % 16 = (nx + 16 - 16 + (i + 1)) % 16 := by omega
    rw [es]
    by_cases e : i = 15
    · subst e
      rw [a2, show (nx + 16 - 16 + (15 + 1)) % 16 = nx by omega]
      exact OldR_cong hn ⟨m, v, F, T, C, hO, rfl, hM⟩ (fun k hk => r2 k hk)
    · rw [a3 i (by omega)]
      refine OldR_cong hn (h (i + 1) (by omega)) (fun k hk => r3 _ ?_)
      have : (nx + 16 - 16 + (i + 1)) % 16 ≠ nx := by omega
      omega
theorem NowOk_upd {n m v c x y z : Nat} {F T C : Nat → Nat} (hO : NowOk n m v F T C) (hx : x ≤ 4) (hy : y ≤ 4) (hz : z ≤ 4) (h1 : x ≠ 0 → y ≠ 0) (h2 : z ≤ c) : NowOk n m v (fun j => if j = c then x else F j) (fun j => if j = c then y else T j) (fun j => if j = c then z else C j) := by
  obtain ⟨a, b, d, e⟩ := hO
  refine ⟨a, b, fun j hj => ?_, fun j hj => ?_⟩
  · by_cases q : j = c
    · simp only [if_pos q]; exact ⟨hx, hy, hz⟩
    · simp only [if_neg q]; exact d j hj
  · by_cases q : j = c
    · subst q; simp only [if_true]; exact ⟨h1, h2⟩
    · simp only [if_neg q]; exact e j hj
/-- thirteen numbers back -/
theorem un_loop {N s : Nat} {row : Nat → Int32} (nx : Int32) (hs : (nx + (15:Int32)) - (nx + (15:Int32)) / (16:Int32) * (16:Int32) = nI s) (hs2 : s < 16) (kk : Int32 → (Nat → Int32) → Option (Int32 × Int32 × Int32 × (Nat → Int32))) :
    ∀ (j g c : Nat) (P : Nat → Int32), c + j = 13 → j < g → (∀ k, k < c → P k = row (13 * s + k)) → ∃ P', f_X6_undo_36 N nx row kk g (nI c) P = kk (nI 13) P' ∧ ∀ k, k < 13 → P' k = row (13 * s + k) := by
  intro j
  induction j with
  | zero =>
    intro g c P hc hg hP
    obtain ⟨g', rfl⟩ : ∃ g', g = g' + 1 := ⟨g - 1, by omega⟩
    have : c = 13 := by omega
    subst this
    exact ⟨P, by rw [f_X6_undo_36, if_pos (by decide)], hP⟩
  | succ j ih =>
    intro g c P hc hg hP
    obtain ⟨g', rfl⟩ : ∃ g', g = g' + 1 := ⟨g - 1, by omega⟩
    rw [f_X6_undo_36, if_neg (by rw [L13, le_n (by omega) (by omega)]; omega), hs, L13, mul_n, add_n, gI_n (by omega) (by omega), gI_n (by omega) (by omega), cl_n (by omega), cl_n (by omega), A1r]
    refine ih g' (c + 1) _ (by omega) (by omega) (fun k hk => ?_)
    by_cases e : k = c
    · subst e; rw [up_s]
    · rw [up_n e]; exact hP k (by omega)
theorem ag_loop {N s : Nat} {q : Nat → Int32} (hs2 : s < 2) (kk : Int32 → (Nat → Int32) → Option (Int32 × Int32 × (Nat → Int32))) :
    ∀ (j g c : Nat) (P : Nat → Int32), c + j = 13 → j < g → (∀ k, k < c → P k = q (13 * s + k)) → ∃ P', f_X6_again_26 N (nI s) q kk g (nI c) P = kk (nI 13) P' ∧ ∀ k, k < 13 → P' k = q (13 * s + k) := by
  intro j
  induction j with
  | zero =>
    intro g c P hc hg hP
    obtain ⟨g', rfl⟩ : ∃ g', g = g' + 1 := ⟨g - 1, by omega⟩
    have : c = 13 := by omega
    subst this
    exact ⟨P, by rw [f_X6_again_26, if_pos (by decide)], hP⟩
  | succ j ih =>
    intro g c P hc hg hP
    obtain ⟨g', rfl⟩ : ∃ g', g = g' + 1 := ⟨g - 1, by omega⟩
    rw [f_X6_again_26, if_neg (by rw [L13, le_n (by omega) (by omega)]; omega), L13, mul_n, add_n, gI_n (by omega) (by omega), gI_n (by omega) (by omega), cl_n (by omega), cl_n (by omega), A1r]
    refine ih g' (c + 1) _ (by omega) (by omega) (fun k hk => ?_)
    by_cases e : k = c
    · subst e; rw [up_s]
    · rw [up_n e]; exact hP k (by omega)
theorem ke_loop {N s : Nat} {now : Nat → Int32} (hs2 : s < 2) (kk : Int32 → (Nat → Int32) → Option (Int32 × (Nat → Int32) × (Nat → Int32))) :
    ∀ (j g c : Nat) (R : Nat → Int32), c + j = 13 → j < g → ∃ R', f_X6_keep_21 N (nI s) now kk g (nI c) R = kk (nI 13) R' ∧ (∀ k, c ≤ k → k < 13 → R' (13 * s + k) = now k) ∧ ∀ i, (i < 13 * s + c ∨ 13 * s + 13 ≤ i) → R' i = R i := by
  intro j
  induction j with
  | zero =>
    intro g c R hc hg
    obtain ⟨g', rfl⟩ : ∃ g', g = g' + 1 := ⟨g - 1, by omega⟩
    have : c = 13 := by omega
    subst this
    exact ⟨R, by rw [f_X6_keep_21, if_pos (by decide)], fun k h1 h2 => by omega, fun i _ => rfl⟩
  | succ j ih =>
    intro g c R hc hg
    obtain ⟨g', rfl⟩ : ∃ g', g = g' + 1 := ⟨g - 1, by omega⟩
    obtain ⟨R', h1, h2, h3⟩ := ih g' (c + 1) (upd R (13 * s + c) (now c)) (by omega) (by omega)
    refine ⟨R', ?_, fun k k1 k2 => ?_, fun i hi => ?_⟩
    · rw [f_X6_keep_21, if_neg (by rw [L13, le_n (by omega) (by omega)]; omega), gI_n (by omega) (by omega), L13, mul_n, add_n, gI_n (by omega) (by omega), cl_n (by omega), cl_n (by omega), A1r, h1]
    · by_cases e : k = c
      · subst e
        rw [h3 _ (by omega), up_s]
      · exact h2 k (by omega) k2
    · rw [h3 i (by omega), up_n (by omega)]
theorem NowM_0 {n m v m' v' : Nat} {F T C : Nat → Nat} {mn : Nat → Int32} (h : NowM n m v F T C mn) : NowM n m' v' F T C (upd mn 0 (nI (4096 * m' + v'))) := by
  refine ⟨up_s, fun c hc => ?_⟩
  rw [up_n (by omega), up_n (by omega), up_n (by omega)]
  exact h.2 c hc
theorem NowX_0 {m v m' v' : Nat} {F T C : Nat → Nat} {sp : Int32} {bf bt bc : Nat → Int32} (h : NowX m v F T C sp bf bt bc) : NowX m' v' F T C (nI (4 ^ m' + v')) bf bt bc := ⟨rfl, h.2⟩
