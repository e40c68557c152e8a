/-! orders of leaves -/
def wl (pm pv : Nat) (q : Nat × Nat) (i : Nat) : Nat × Nat := if 2 * i + 1 < pm then (q.1 + 1 + 1, 4 * (4 * q.2 + wd pm pv (2 * i)) + wd pm pv (2 * i + 1)) else (q.1 + 1, 4 * q.2 + wd pm pv (2 * i))
theorem wl_ok {pm pv i : Nat} {q : Nat × Nat} (h : q.2 < 4 ^ q.1) : (wl pm pv q i).1 ≤ q.1 + 2 ∧ (wl pm pv q i).2 < 4 ^ (wl pm pv q i).1 := by
  have w1 := wd_lt pm pv (2 * i)
  have w2 := wd_lt pm pv (2 * i + 1)
  unfold wl
  split
  · exact ⟨by show q.1 + 1 + 1 ≤ _; omega, by show _ < 4 ^ (q.1 + 1 + 1); rw [Nat.pow_succ, Nat.pow_succ]; omega⟩
  · exact ⟨by show q.1 + 1 ≤ _; omega, by show _ < 4 ^ (q.1 + 1); rw [Nat.pow_succ]; omega⟩
theorem wlX {N pm pv i : Nat} {q : Nat × Nat} (hN : 200000 ≤ N) (hm : pm ≤ 6) (hv : pv < 4 ^ pm) (hi : 2 * i < pm) (hq : q.1 ≤ 4) (h : q.2 < 4 ^ q.1) : f_X4_withLeaf N (nI (4 ^ q.1 + q.2)) (nI (4 ^ pm + pv)) (nI i) = some (nI (4 ^ (wl pm pv q i).1 + (wl pm pv q i).2)) := by
  obtain ⟨N', rfl⟩ : ∃ N', N = N' + 1 + 1 + 1 := ⟨N - 3, by omega⟩
  have w1 := wd_lt pm pv (2 * i)
  have w2 := wd_lt pm pv (2 * i + 1)
  unfold f_X4_withLeaf
  have e2 : (2:Int32) * nI i = nI (2 * i) := mul_n 2 i
  rw [wI hN hm hv, Option.bind_some, e2, f_X4_withLeaf_24, e2, show nI (2 * i) + (2:Int32) = nI (2 * i + 2) from add_n _ 2]
  by_cases y : 2 * i + 1 < pm
  · have lim : (if nI pm < nI (2 * i + 2) then nI pm else nI (2 * i + 2)) = nI (2 * i + 2) := by
      by_cases u : pm < 2 * i + 2
      · omega
      · rw [if_neg (by rw [lt_n (by omega) (by omega)]; exact u)]
    rw [lim, if_neg (by rw [le_n (by omega) (by omega)]; omega), wA hm hv (by omega), Option.bind_some, wW (by omega) h w1, Option.bind_some, A1r]
    rw [f_X4_withLeaf_24, e2, show nI (2 * i) + (2:Int32) = nI (2 * i + 2) from add_n _ 2, lim, if_neg (by rw [le_n (by omega) (by omega)]; omega), wA hm hv (by omega), Option.bind_some, wW (by omega) (by rw [Nat.pow_succ]; omega) w2, Option.bind_some, A1r]
    rw [f_X4_withLeaf_24, e2, show nI (2 * i) + (2:Int32) = nI (2 * i + 2) from add_n _ 2, lim, if_pos (by rw [le_n (by omega) (by omega)]; omega)]
    unfold wl
    rw [if_pos y]
  · have lim : (if nI pm < nI (2 * i + 2) then nI pm else nI (2 * i + 2)) = nI (2 * i + 1) := by
      rw [if_pos (by rw [lt_n (by omega) (by omega)]; omega)]
      congr 1; omega
    rw [lim, if_neg (by rw [le_n (by omega) (by omega)]; omega), wA hm hv (by omega), Option.bind_some, wW (by omega) h w1, Option.bind_some, A1r]
    rw [f_X4_withLeaf_24, e2, show nI (2 * i) + (2:Int32) = nI (2 * i + 2) from add_n _ 2, lim, if_pos (by rw [le_n (by omega) (by omega)]; omega)]
    unfold wl
    rw [if_neg y]
theorem wlM {N pm pv i : Nat} {q : Nat × Nat} (hm : pm ≤ 6) (hv : pv < 4 ^ pm) (hi : 2 * i < pm) (hq : q.1 ≤ 4) (h : q.2 < 4 ^ q.1) : f_X6_withLeaf N (nI (4096 * q.1 + q.2)) (nI (4096 * pm + pv)) (nI i) = some (nI (4096 * (wl pm pv q i).1 + (wl pm pv q i).2)) := by
  have w1 := wd_lt pm pv (2 * i)
  have w2 := wd_lt pm pv (2 * i + 1)
  unfold f_X6_withLeaf
  rw [show (2:Int32) * nI i = nI (2 * i) from mul_n 2 i, A1r, mA hm hv hi, Option.bind_some, mW (by omega) h w1, Option.bind_some, wO hm hv, Option.bind_some]
  by_cases y : 2 * i + 1 < pm
  · rw [if_neg (by rw [le_n (by omega) (by omega)]; omega), mA hm hv y, Option.bind_some, mW (by omega) (by rw [Nat.pow_succ]; omega) w2, Option.bind_some]
    unfold wl
    rw [if_pos y]
  · rw [if_pos (by rw [le_n (by omega) (by omega)]; omega)]
    unfold wl
    rw [if_neg y]
def smn (f : Nat → Nat) : Nat → Nat
  | 0 => 0
  | k + 1 => smn f k + f k
def og (pm pv nl : Nat) (ab : Nat × Nat) : Nat → Nat × Nat → Nat → Nat
  | 0, _, _ => 0
  | d + 1, q, s => if s = 2 ^ nl - 1 then (if q = ab then 1 else 0) else smn (fun i => if s / 2 ^ i % 2 = 0 then og pm pv nl ab d (wl pm pv q i) (s + 2 ^ i) else 0) nl
def pc (s : Nat) : Nat := s % 2 + s / 2 % 2 + s / 4 % 2
theorem bit_z : ∀ i, i < 3 → ∀ s, s < 8 → (nI s &&& ((1:Int32) <<< (nI i &&& 31)) = 0 ↔ s / 2 ^ i % 2 = 0) := by decide +kernel
theorem bit_p : ∀ nl, nl ≤ 3 → ∀ i, i < nl → ∀ s, s < 2 ^ nl → s / 2 ^ i % 2 = 0 → pc (s + 2 ^ i) = pc s + 1 ∧ s + 2 ^ i < 2 ^ nl ∧ pc s ≤ 2 := by
  intro nl h
  rcases (show nl = 0 ∨ nl = 1 ∨ nl = 2 ∨ nl = 3 by omega) with rfl | rfl | rfl | rfl <;> decide +kernel
theorem full : ∀ nl, nl ≤ 3 → ((1:Int32) <<< (nI nl &&& 31)) - (1:Int32) = nI (2 ^ nl - 1) := by decide +kernel
theorem pc4 : ∀ s, s < 8 → pc s ≤ 3 := by decide +kernel
theorem ogX_loop {N pm pv nl a b d s : Nat} {q : Nat × Nat} (hN : 200000 ≤ N) (hm : pm ≤ 6) (hv : pv < 4 ^ pm) (hnl : nl = (pm + 1) / 2) (hs : s < 2 ^ nl) (hq : q.1 ≤ 2 * pc s) (hq2 : q.2 < 4 ^ q.1) (g : Int32 → Int32 → Int32 → Int32 → Option Int32)
    (ih : ∀ i, i < nl → s / 2 ^ i % 2 = 0 → g (nI (4 ^ a + b)) (nI (4 ^ pm + pv)) (nI (4 ^ (wl pm pv q i).1 + (wl pm pv q i).2)) (nI (s + 2 ^ i)) = some (nI (og pm pv nl (a, b) d (wl pm pv q i) (s + 2 ^ i)))) (kk : Int32 → Int32 → Option Int32) :
    ∀ (j gg i : Nat), i + j = nl → j < gg → f_X5_ordersThatGive_33 N g (nI (4 ^ a + b)) (nI (4 ^ pm + pv)) (nI (4 ^ q.1 + q.2)) (nI s) (nI nl) kk gg (nI (smn (fun i => if s / 2 ^ i % 2 = 0 then og pm pv nl (a, b) d (wl pm pv q i) (s + 2 ^ i) else 0) i)) (nI i) = kk (nI (smn (fun i => if s / 2 ^ i % 2 = 0 then og pm pv nl (a, b) d (wl pm pv q i) (s + 2 ^ i) else 0) nl)) (nI nl) := by
  have h8 : 2 ^ nl ≤ 8 := Nat.pow_le_pow_right (n := 2) (by decide) (show nl ≤ 3 by omega)
  intro j
  induction j with
  | zero =>
    intro gg i hi hg'
    obtain ⟨g', rfl⟩ : ∃ g', gg = g' + 1 := ⟨gg - 1, by omega⟩
    have : i = nl := by omega
    subst this
    rw [f_X5_ordersThatGive_33, if_pos (by rw [le_n (by omega) (by omega)]; omega)]
  | succ j ihj =>
    intro gg i hi hg'
    obtain ⟨g', rfl⟩ : ∃ g', gg = g' + 1 := ⟨gg - 1, by omega⟩
    have step := ihj g' (i + 1) (by omega) (by omega)
    rw [f_X5_ordersThatGive_33, if_neg (by rw [le_n (by omega) (by omega)]; omega), A1r]
    by_cases z : s / 2 ^ i % 2 = 0
    · obtain ⟨z1, z2, z3⟩ := bit_p nl (by omega) i (by omega) s hs z
      rw [if_pos ((bit_z i (by omega) s (by omega)).mpr z), wlX hN hm hv (by omega) (by omega) hq2, Option.bind_some, or1 i (by omega) s (by omega) z, ih i (by omega) z, Option.bind_some, add_n]
      rw [smn, if_pos z] at step
      exact step
    · rw [if_neg (fun u => z ((bit_z i (by omega) s (by omega)).mp u))]
      rw [smn, if_neg z, Nat.add_zero] at step
      exact step
theorem ogX {N pm pv nl a b : Nat} (hN : 200000 ≤ N) (hm : pm ≤ 6) (hv : pv < 4 ^ pm) (hnl : nl = (pm + 1) / 2) (ha : a ≤ 6) (hb : b < 4 ^ a) : ∀ (d s : Nat) (q : Nat × Nat), s < 2 ^ nl → pc s + d = 4 → q.1 ≤ 2 * pc s → q.2 < 4 ^ q.1 → f_X5_ordersThatGive N d (nI (4 ^ a + b)) (nI (4 ^ pm + pv)) (nI (4 ^ q.1 + q.2)) (nI s) = some (nI (og pm pv nl (a, b) d q s)) := by
  have h8 : 2 ^ nl ≤ 8 := Nat.pow_le_pow_right (n := 2) (by decide) (show nl ≤ 3 by omega)
  intro d
  induction d with
  | zero => intro s q hs hp; have := pc4 s (by omega); omega
  | succ d ih =>
    intro s q hs hp hq hq2
    have hp3 := pc4 s (by omega)
    rw [f_X5_ordersThatGive]
    unfold f_X4_leavesIn
    rw [wI hN hm hv, Option.bind_some, Option.bind_some, A1r, L2, div_n (by omega) (by omega) (by omega), ← hnl, full nl (by omega), og]
    by_cases e : s = 2 ^ nl - 1
    · rw [if_pos (by rw [e]), if_pos e]
      by_cases w : q = (a, b)
      · rw [if_pos (by rw [rC_eq (by omega) ha hq2 hb]; exact w), if_pos w]; rfl
      · rw [if_neg (by rw [rC_eq (by omega) ha hq2 hb]; exact w), if_neg w]; rfl
    · rw [if_neg (by rw [eq_n (by omega) (by omega)]; exact e), if_neg e]
      refine ogX_loop (d := d) hN hm hv hnl hs hq hq2 (f_X5_ordersThatGive N d) (fun i hi z => ?_) (fun z5_33 z6_33 => some z5_33) nl N 0 (by omega) (by omega)
      obtain ⟨z1, z2, z3⟩ := bit_p nl (by omega) i hi s hs z
      obtain ⟨u1, u2⟩ := wl_ok (pm := pm) (pv := pv) (i := i) hq2
      exact ih (s + 2 ^ i) _ z2 (by omega) (by omega) u2
def dg (y p : Nat) : Nat := y / 3 ^ p % 3
def rf (pm pv nl y : Nat) : Nat → Nat × Nat
  | 0 => (0, 0)
  | p + 1 => if nl ≤ dg y p then rf pm pv nl y p else wl pm pv (rf pm pv nl y p) (dg y p)
theorem rf_ok (pm pv nl y : Nat) : ∀ p, (rf pm pv nl y p).1 ≤ 2 * p ∧ (rf pm pv nl y p).2 < 4 ^ (rf pm pv nl y p).1 := by
  intro p
  induction p with
  | zero => exact ⟨Nat.le_refl 0, Nat.one_pos⟩
  | succ p ih =>
    rw [rf]
    split
    · exact ⟨by omega, ih.2⟩
    · obtain ⟨u1, u2⟩ := wl_ok (pm := pm) (pv := pv) (i := dg y p) ih.2
      exact ⟨by omega, u2⟩
def bs (y : Nat) : Nat → Int32
  | 0 => 0
  | p + 1 => bs y p ||| ((1:Int32) <<< (nI (dg y p) &&& 31))
theorem lvM_loop {N pm pv nl y c : Nat} {P : Nat → Int32} (hm : pm ≤ 6) (hv : pv < 4 ^ pm) (hnl : nl = (pm + 1) / 2) (hy : y < 27) (hP : P c = nI (4096 * pm + pv)) (hc : c < 4) (kk : Int32 → Int32 → Int32 → Option (Int32 × (Nat → Int32))) :
    ∀ (j g p : Nat), p + j = nl → j < g → f_X6_leaves_93 N (nI c) P (nI pm) (nI y) kk g (bs y p) (nI (4096 * (rf pm pv nl y p).1 + (rf pm pv nl y p).2)) (nI p) = kk (bs y nl) (nI (4096 * (rf pm pv nl y nl).1 + (rf pm pv nl y nl).2)) (nI nl) := by
  have en : (nI pm + (1:Int32)) / (2:Int32) = nI nl := by rw [A1r, L2, div_n (by omega) (by omega) (by omega), hnl]
  have d0 : nI y / (1:Int32) - nI y / (1:Int32) / (3:Int32) * (3:Int32) = nI (dg y 0) := by
    rw [L1, div_n (by omega) (by omega) (by omega), L3, rem_n (by omega) (by omega) (by omega)]; rfl
  have d1 : nI y / (3:Int32) - nI y / (3:Int32) / (3:Int32) * (3:Int32) = nI (dg y 1) := by
    rw [L3, div_n (by omega) (by omega) (by omega), rem_n (by omega) (by omega) (by omega)]; rfl
  have d2 : nI y / (9:Int32) - nI y / (9:Int32) / (3:Int32) * (3:Int32) = nI (dg y 2) := by
    rw [L9, div_n (by omega) (by omega) (by omega), L3, rem_n (by omega) (by omega) (by omega)]; rfl
  intro j
  induction j with
  | zero =>
    intro g p hp hg'
    obtain ⟨g', rfl⟩ : ∃ g', g = g' + 1 := ⟨g - 1, by omega⟩
    have : p = nl := by omega
    subst this
    rw [f_X6_leaves_93, en, if_pos (by rw [le_n (by omega) (by omega)]; omega)]
  | succ j ih =>
    intro g p hp hg'
    obtain ⟨g', rfl⟩ : ∃ g', g = g' + 1 := ⟨g - 1, by omega⟩
    have step := ih g' (p + 1) (by omega) (by omega)
    obtain ⟨r1, r2⟩ := rf_ok pm pv nl y p
    have hd : dg y p < 3 := Nat.mod_lt _ (by decide)
    rw [f_X6_leaves_93, en, if_neg (by rw [le_n (by omega) (by omega)]; omega), A1r, d0, d1, d2, cl_n (by omega), hP]
    rw [bs, rf] at step
    have go : (if nI nl ≤ nI (dg y p) then f_X6_leaves_93 N (nI c) P (nI pm) (nI y) kk g' (bs y p ||| ((1:Int32) <<< (nI (dg y p) &&& 31))) (nI (4096 * (rf pm pv nl y p).1 + (rf pm pv nl y p).2)) (nI (p + 1)) else (f_X6_withLeaf N (nI (4096 * (rf pm pv nl y p).1 + (rf pm pv nl y p).2)) (nI (4096 * pm + pv)) (nI (dg y p))).bind (fun x => f_X6_leaves_93 N (nI c) P (nI pm) (nI y) kk g' (bs y p ||| ((1:Int32) <<< (nI (dg y p) &&& 31))) x (nI (p + 1)))) = kk (bs y nl) (nI (4096 * (rf pm pv nl y nl).1 + (rf pm pv nl y nl).2)) (nI nl) := by
      by_cases u : nl ≤ dg y p
      · rw [if_pos (by rw [le_n (by omega) (by omega)]; exact u)]
        rw [if_pos u] at step
        exact step
      · rw [if_neg (by rw [le_n (by omega) (by omega)]; exact u), wlM hm hv (by omega) (by omega) r2, Option.bind_some]
        rw [if_neg u] at step
        exact step
    rcases (show p = 0 ∨ p = 1 ∨ p = 2 by omega) with rfl | rfl | rfl
    · rw [if_pos (show nI 0 = (0:Int32) from rfl)]
      exact go
    · rw [if_neg (by decide), if_pos (show nI 1 = (1:Int32) from rfl)]
      exact go
    · rw [if_neg (by decide), if_neg (by decide)]
      exact go
