def okp (nl y : Nat) : Bool := (decide (nl = 3) || (decide (nl = 2) && decide (y < 9)) || (decide (nl = 1) && decide (y < 3))) && decide (bs y nl = nI (2 ^ nl - 1))
def bq (x : Bool) : Nat := if x = true then 1 else 0
theorem p4_2 (k : Nat) : 0 < 2 ^ k := Nat.pow_pos (by decide)
theorem cnt_a (p : Nat → Bool) (k : Nat) : cnt p (k + 1) = cnt p k + bq (p k) := by
  unfold bq
  by_cases h : p k = true
  · rw [cnt_y h, if_pos h]
  · rw [cnt_f h, if_neg h, Nat.add_zero]
theorem bq_f {x y : Bool} (h : x = false) : bq (x && y) = 0 := by rw [h]; rfl
theorem bq_t {x : Bool} {P Q : Prop} [iP : Decidable P] [iQ : Decidable Q] (h : x = true) (hp : P ↔ Q) : bq (x && decide P) = if Q then 1 else 0 := by
  rw [h, Bool.true_and]
  unfold bq
  by_cases z : P
  · rw [if_pos (decide_eq_true z), if_pos (hp.mp z)]
  · rw [if_neg (fun u => z (of_decide_eq_true u)), if_neg (fun u => z (hp.mpr u))]
theorem cnt27 (p : Nat → Bool) : cnt p 27 = 0 + bq (p 0) + bq (p 1) + bq (p 2) + bq (p 3) + bq (p 4) + bq (p 5) + bq (p 6) + bq (p 7) + bq (p 8) + bq (p 9) + bq (p 10) + bq (p 11) + bq (p 12) + bq (p 13) + bq (p 14) + bq (p 15) + bq (p 16) + bq (p 17) + bq (p 18) + bq (p 19) + bq (p 20) + bq (p 21) + bq (p 22) + bq (p 23) + bq (p 24) + bq (p 25) + bq (p 26) := by
  have e0 : cnt p 1 = cnt p 0 + bq (p 0) := cnt_a p 0
  have e1 : cnt p 2 = cnt p 1 + bq (p 1) := cnt_a p 1
  have e2 : cnt p 3 = cnt p 2 + bq (p 2) := cnt_a p 2
  have e3 : cnt p 4 = cnt p 3 + bq (p 3) := cnt_a p 3
  have e4 : cnt p 5 = cnt p 4 + bq (p 4) := cnt_a p 4
  have e5 : cnt p 6 = cnt p 5 + bq (p 5) := cnt_a p 5
  have e6 : cnt p 7 = cnt p 6 + bq (p 6) := cnt_a p 6
  have e7 : cnt p 8 = cnt p 7 + bq (p 7) := cnt_a p 7
  have e8 : cnt p 9 = cnt p 8 + bq (p 8) := cnt_a p 8
  have e9 : cnt p 10 = cnt p 9 + bq (p 9) := cnt_a p 9
  have e10 : cnt p 11 = cnt p 10 + bq (p 10) := cnt_a p 10
  have e11 : cnt p 12 = cnt p 11 + bq (p 11) := cnt_a p 11
  have e12 : cnt p 13 = cnt p 12 + bq (p 12) := cnt_a p 12
  have e13 : cnt p 14 = cnt p 13 + bq (p 13) := cnt_a p 13
  have e14 : cnt p 15 = cnt p 14 + bq (p 14) := cnt_a p 14
  have e15 : cnt p 16 = cnt p 15 + bq (p 15) := cnt_a p 15
  have e16 : cnt p 17 = cnt p 16 + bq (p 16) := cnt_a p 16
  have e17 : cnt p 18 = cnt p 17 + bq (p 17) := cnt_a p 17
  have e18 : cnt p 19 = cnt p 18 + bq (p 18) := cnt_a p 18
  have e19 : cnt p 20 = cnt p 19 + bq (p 19) := cnt_a p 19
  have e20 : cnt p 21 = cnt p 20 + bq (p 20) := cnt_a p 20
  have e21 : cnt p 22 = cnt p 21 + bq (p 21) := cnt_a p 21
  have e22 : cnt p 23 = cnt p 22 + bq (p 22) := cnt_a p 22
  have e23 : cnt p 24 = cnt p 23 + bq (p 23) := cnt_a p 23
  have e24 : cnt p 25 = cnt p 24 + bq (p 24) := cnt_a p 24
  have e25 : cnt p 26 = cnt p 25 + bq (p 25) := cnt_a p 25
  have e26 : cnt p 27 = cnt p 26 + bq (p 26) := cnt_a p 26
  rw [e26, e25, e24, e23, e22, e21, e20, e19, e18, e17, e16, e15, e14, e13, e12, e11, e10, e9, e8, e7, e6, e5, e4, e3, e2, e1, e0]
  rfl
theorem same1 (pm pv : Nat) (ab : Nat × Nat) : og pm pv 1 ab 4 (0, 0) 0 = cnt (fun y => okp 1 y && decide (rf pm pv 1 y 1 = ab)) 27 := by
  rw [cnt27]
  rw [bq_t (x := okp 1 0) (P := rf pm pv 1 0 1 = ab) (Q := (wl pm pv (0, 0) 0) = ab) (by decide +kernel) Iff.rfl]
  rw [bq_f (x := okp 1 1) (by decide +kernel)]
  rw [bq_f (x := okp 1 2) (by decide +kernel)]
  rw [bq_f (x := okp 1 3) (by decide +kernel)]
  rw [bq_f (x := okp 1 4) (by decide +kernel)]
  rw [bq_f (x := okp 1 5) (by decide +kernel)]
  rw [bq_f (x := okp 1 6) (by decide +kernel)]
  rw [bq_f (x := okp 1 7) (by decide +kernel)]
  rw [bq_f (x := okp 1 8) (by decide +kernel)]
  rw [bq_f (x := okp 1 9) (by decide +kernel)]
  rw [bq_f (x := okp 1 10) (by decide +kernel)]
  rw [bq_f (x := okp 1 11) (by decide +kernel)]
  rw [bq_f (x := okp 1 12) (by decide +kernel)]
  rw [bq_f (x := okp 1 13) (by decide +kernel)]
  rw [bq_f (x := okp 1 14) (by decide +kernel)]
  rw [bq_f (x := okp 1 15) (by decide +kernel)]
  rw [bq_f (x := okp 1 16) (by decide +kernel)]
  rw [bq_f (x := okp 1 17) (by decide +kernel)]
  rw [bq_f (x := okp 1 18) (by decide +kernel)]
  rw [bq_f (x := okp 1 19) (by decide +kernel)]
  rw [bq_f (x := okp 1 20) (by decide +kernel)]
  rw [bq_f (x := okp 1 21) (by decide +kernel)]
  rw [bq_f (x := okp 1 22) (by decide +kernel)]
  rw [bq_f (x := okp 1 23) (by decide +kernel)]
  rw [bq_f (x := okp 1 24) (by decide +kernel)]
  rw [bq_f (x := okp 1 25) (by decide +kernel)]
  rw [bq_f (x := okp 1 26) (by decide +kernel)]
  have o1 : ∀ d q, og pm pv 1 ab (d + 1) q 1 = if q = ab then 1 else 0 := fun d q => rfl
  have o0 : ∀ d q, og pm pv 1 ab (d + 1) q 0 = 0 + og pm pv 1 ab d (wl pm pv q 0) 1 := fun d q => rfl
  simp only [o0 3, o1 2, Nat.zero_add, Nat.add_zero]
theorem same2 (pm pv : Nat) (ab : Nat × Nat) : og pm pv 2 ab 4 (0, 0) 0 = cnt (fun y => okp 2 y && decide (rf pm pv 2 y 2 = ab)) 27 := by
  rw [cnt27]
  rw [bq_f (x := okp 2 0) (by decide +kernel)]
  rw [bq_t (x := okp 2 1) (P := rf pm pv 2 1 2 = ab) (Q := (wl pm pv (wl pm pv (0, 0) 1) 0) = ab) (by decide +kernel) Iff.rfl]
  rw [bq_f (x := okp 2 2) (by decide +kernel)]
  rw [bq_t (x := okp 2 3) (P := rf pm pv 2 3 2 = ab) (Q := (wl pm pv (wl pm pv (0, 0) 0) 1) = ab) (by decide +kernel) Iff.rfl]
  rw [bq_f (x := okp 2 4) (by decide +kernel)]
  rw [bq_f (x := okp 2 5) (by decide +kernel)]
  rw [bq_f (x := okp 2 6) (by decide +kernel)]
  rw [bq_f (x := okp 2 7) (by decide +kernel)]
  rw [bq_f (x := okp 2 8) (by decide +kernel)]
  rw [bq_f (x := okp 2 9) (by decide +kernel)]
  rw [bq_f (x := okp 2 10) (by decide +kernel)]
  rw [bq_f (x := okp 2 11) (by decide +kernel)]
  rw [bq_f (x := okp 2 12) (by decide +kernel)]
  rw [bq_f (x := okp 2 13) (by decide +kernel)]
  rw [bq_f (x := okp 2 14) (by decide +kernel)]
  rw [bq_f (x := okp 2 15) (by decide +kernel)]
  rw [bq_f (x := okp 2 16) (by decide +kernel)]
  rw [bq_f (x := okp 2 17) (by decide +kernel)]
  rw [bq_f (x := okp 2 18) (by decide +kernel)]
  rw [bq_f (x := okp 2 19) (by decide +kernel)]
  rw [bq_f (x := okp 2 20) (by decide +kernel)]
  rw [bq_f (x := okp 2 21) (by decide +kernel)]
  rw [bq_f (x := okp 2 22) (by decide +kernel)]
  rw [bq_f (x := okp 2 23) (by decide +kernel)]
  rw [bq_f (x := okp 2 24) (by decide +kernel)]
  rw [bq_f (x := okp 2 25) (by decide +kernel)]
  rw [bq_f (x := okp 2 26) (by decide +kernel)]
  have o3 : ∀ d q, og pm pv 2 ab (d + 1) q 3 = if q = ab then 1 else 0 := fun d q => rfl
  have o0 : ∀ d q, og pm pv 2 ab (d + 1) q 0 = 0 + og pm pv 2 ab d (wl pm pv q 0) 1 + og pm pv 2 ab d (wl pm pv q 1) 2 := fun d q => rfl
  have o1 : ∀ d q, og pm pv 2 ab (d + 1) q 1 = 0 + 0 + og pm pv 2 ab d (wl pm pv q 1) 3 := fun d q => rfl
  have o2 : ∀ d q, og pm pv 2 ab (d + 1) q 2 = 0 + og pm pv 2 ab d (wl pm pv q 0) 3 + 0 := fun d q => rfl
  simp only [o0 3, o1 2, o2 2, o3 1, Nat.zero_add, Nat.add_zero]
  ac_rfl
theorem same3 (pm pv : Nat) (ab : Nat × Nat) : og pm pv 3 ab 4 (0, 0) 0 = cnt (fun y => okp 3 y && decide (rf pm pv 3 y 3 = ab)) 27 := by
  rw [cnt27]
  rw [bq_f (x := okp 3 0) (by decide +kernel)]
  rw [bq_f (x := okp 3 1) (by decide +kernel)]
  rw [bq_f (x := okp 3 2) (by decide +kernel)]
  rw [bq_f (x := okp 3 3) (by decide +kernel)]
  rw [bq_f (x := okp 3 4) (by decide +kernel)]
  rw [bq_t (x := okp 3 5) (P := rf pm pv 3 5 3 = ab) (Q := (wl pm pv (wl pm pv (wl pm pv (0, 0) 2) 1) 0) = ab) (by decide +kernel) Iff.rfl]
  rw [bq_f (x := okp 3 6) (by decide +kernel)]
  rw [bq_t (x := okp 3 7) (P := rf pm pv 3 7 3 = ab) (Q := (wl pm pv (wl pm pv (wl pm pv (0, 0) 1) 2) 0) = ab) (by decide +kernel) Iff.rfl]
  rw [bq_f (x := okp 3 8) (by decide +kernel)]
  rw [bq_f (x := okp 3 9) (by decide +kernel)]
  rw [bq_f (x := okp 3 10) (by decide +kernel)]
  rw [bq_t (x := okp 3 11) (P := rf pm pv 3 11 3 = ab) (Q := (wl pm pv (wl pm pv (wl pm pv (0, 0) 2) 0) 1) = ab) (by decide +kernel) Iff.rfl]
  rw [bq_f (x := okp 3 12) (by decide +kernel)]
  rw [bq_f (x := okp 3 13) (by decide +kernel)]
  rw [bq_f (x := okp 3 14) (by decide +kernel)]
  rw [bq_t (x := okp 3 15) (P := rf pm pv 3 15 3 = ab) (Q := (wl pm pv (wl pm pv (wl pm pv (0, 0) 0) 2) 1) = ab) (by decide +kernel) Iff.rfl]
  rw [bq_f (x := okp 3 16) (by decide +kernel)]
  rw [bq_f (x := okp 3 17) (by decide +kernel)]
  rw [bq_f (x := okp 3 18) (by decide +kernel)]
  rw [bq_t (x := okp 3 19) (P := rf pm pv 3 19 3 = ab) (Q := (wl pm pv (wl pm pv (wl pm pv (0, 0) 1) 0) 2) = ab) (by decide +kernel) Iff.rfl]
  rw [bq_f (x := okp 3 20) (by decide +kernel)]
  rw [bq_t (x := okp 3 21) (P := rf pm pv 3 21 3 = ab) (Q := (wl pm pv (wl pm pv (wl pm pv (0, 0) 0) 1) 2) = ab) (by decide +kernel) Iff.rfl]
  rw [bq_f (x := okp 3 22) (by decide +kernel)]
  rw [bq_f (x := okp 3 23) (by decide +kernel)]
  rw [bq_f (x := okp 3 24) (by decide +kernel)]
  rw [bq_f (x := okp 3 25) (by decide +kernel)]
  rw [bq_f (x := okp 3 26) (by decide +kernel)]
  have o7 : ∀ d q, og pm pv 3 ab (d + 1) q 7 = if q = ab then 1 else 0 := fun d q => rfl
  have o0 : ∀ d q, og pm pv 3 ab (d + 1) q 0 = 0 + og pm pv 3 ab d (wl pm pv q 0) 1 + og pm pv 3 ab d (wl pm pv q 1) 2 + og pm pv 3 ab d (wl pm pv q 2) 4 := fun d q => rfl
  have o1 : ∀ d q, og pm pv 3 ab (d + 1) q 1 = 0 + 0 + og pm pv 3 ab d (wl pm pv q 1) 3 + og pm pv 3 ab d (wl pm pv q 2) 5 := fun d q => rfl
  have o2 : ∀ d q, og pm pv 3 ab (d + 1) q 2 = 0 + og pm pv 3 ab d (wl pm pv q 0) 3 + 0 + og pm pv 3 ab d (wl pm pv q 2) 6 := fun d q => rfl
  have o3 : ∀ d q, og pm pv 3 ab (d + 1) q 3 = 0 + 0 + 0 + og pm pv 3 ab d (wl pm pv q 2) 7 := fun d q => rfl
  have o4 : ∀ d q, og pm pv 3 ab (d + 1) q 4 = 0 + og pm pv 3 ab d (wl pm pv q 0) 5 + og pm pv 3 ab d (wl pm pv q 1) 6 + 0 := fun d q => rfl
  have o5 : ∀ d q, og pm pv 3 ab (d + 1) q 5 = 0 + 0 + og pm pv 3 ab d (wl pm pv q 1) 7 + 0 := fun d q => rfl
  have o6 : ∀ d q, og pm pv 3 ab (d + 1) q 6 = 0 + og pm pv 3 ab d (wl pm pv q 0) 7 + 0 + 0 := fun d q => rfl
  simp only [o0 3, o1 2, o2 2, o3 1, o4 2, o5 1, o6 1, o7 0, Nat.zero_add, Nat.add_zero]
  ac_rfl
theorem lv77 {N pm pv nl c a b : Nat} {P mt : Nat → Int32} (hN : 200000 ≤ N) (hm : pm ≤ 6) (hv : pv < 4 ^ pm) (hnl : nl = (pm + 1) / 2) (hpos : 0 < nl) (hP : P c = nI (4096 * pm + pv)) (hc : c < 4) (ha : a ≤ 6) (hb : b < 4 ^ a) (ht : mt c = nI (4096 * a + b)) (kk : Int32 → Int32 → Option (Int32 × (Nat → Int32))) :
    ∀ (j g y : Nat), y + j = 27 → j < g → f_X6_leaves_77 N (nI c) mt P (nI pm) kk g (nI (cnt (fun y => okp nl y && decide (rf pm pv nl y nl = (a, b))) y)) (nI y) = kk (nI (cnt (fun y => okp nl y && decide (rf pm pv nl y nl = (a, b))) 27)) (nI 27) := by
  have en : (nI pm + (1:Int32)) / (2:Int32) = nI nl := by rw [A1r, L2, div_n (by omega) (by omega) (by omega), hnl]
  intro j
  induction j with
  | zero =>
    intro g y hy hg'
    obtain ⟨g', rfl⟩ : ∃ g', g = g' + 1 := ⟨g - 1, by omega⟩
    have : y = 27 := by omega
    subst this
    rw [f_X6_leaves_77, if_pos (by decide)]
  | succ j ih =>
    intro g y hy hg'
    obtain ⟨g', rfl⟩ : ∃ g', g = g' + 1 := ⟨g - 1, by omega⟩
    have step := ih g' (y + 1) (by omega) (by omega)
    obtain ⟨r1, r2⟩ := rf_ok pm pv nl y nl
    rw [f_X6_leaves_77, if_neg (by rw [show (27:Int32) = nI 27 from rfl, le_n (by omega) (by omega)]; omega)]
    refine Eq.trans (lvM_loop hm hv hnl (show y < 27 by omega) hP hc _ nl N 0 (by omega) (by omega)) ?_
    rw [en, full nl (by omega), A0r, A1r, A1r, cl_n (by omega), ht]
    simp only [gI_n hc (show (4:Nat) < 2147483648 by decide)]
    have no : ¬ (okp nl y && decide (rf pm pv nl y nl = (a, b))) = true → f_X6_leaves_77 N (nI c) mt P (nI pm) kk g' (nI (cnt (fun y => okp nl y && decide (rf pm pv nl y nl = (a, b))) y)) (nI (y + 1)) = kk (nI (cnt (fun y => okp nl y && decide (rf pm pv nl y nl = (a, b))) 27)) (nI 27) := by
      intro z
      rw [cnt_f (p := fun y => okp nl y && decide (rf pm pv nl y nl = (a, b))) z] at step
      exact step
    have go : (decide (nl = 3) || (decide (nl = 2) && decide (y < 9)) || (decide (nl = 1) && decide (y < 3))) = true → (if bs y nl = nI (2 ^ nl - 1) then if nI (4096 * (rf pm pv nl y nl).1 + (rf pm pv nl y nl).2) = nI (4096 * a + b) then f_X6_leaves_77 N (nI c) mt P (nI pm) kk g' (nI (cnt (fun y => okp nl y && decide (rf pm pv nl y nl = (a, b))) y + 1)) (nI (y + 1)) else f_X6_leaves_77 N (nI c) mt P (nI pm) kk g' (nI (cnt (fun y => okp nl y && decide (rf pm pv nl y nl = (a, b))) y)) (nI (y + 1)) else f_X6_leaves_77 N (nI c) mt P (nI pm) kk g' (nI (cnt (fun y => okp nl y && decide (rf pm pv nl y nl = (a, b))) y)) (nI (y + 1))) = kk (nI (cnt (fun y => okp nl y && decide (rf pm pv nl y nl = (a, b))) 27)) (nI 27) := by
      intro hk
      by_cases q : bs y nl = nI (2 ^ nl - 1)
      · rw [if_pos q]
        by_cases w : rf pm pv nl y nl = (a, b)
        · rw [if_pos (by rw [rM_eq (by omega) ha r2 hb]; exact w)]
          rw [cnt_y (p := fun y => okp nl y && decide (rf pm pv nl y nl = (a, b))) (by show (okp nl y && decide (rf pm pv nl y nl = (a, b))) = true; unfold okp; rw [hk, decide_eq_true q, decide_eq_true w]; rfl)] at step
          exact step
        · rw [if_neg (by rw [rM_eq (by omega) ha r2 hb]; exact w)]
          exact no (by rw [decide_eq_false w, Bool.and_false]; exact Bool.noConfusion)
      · rw [if_neg q]
        exact no (by unfold okp; rw [decide_eq_false q, Bool.and_false, Bool.false_and]; exact Bool.noConfusion)
    rcases (show nl = 1 ∨ nl = 2 ∨ nl = 3 by omega) with e | e | e
    · rw [if_neg (by rw [e]; decide), if_neg (by rw [e]; decide)]
      by_cases q : 3 ≤ y
      · rw [if_pos (by rw [L3, le_n (by omega) (by omega)]; exact q)]
        exact no (by unfold okp; rw [e, decide_eq_false (show ¬ y < 3 by omega)]; exact Bool.noConfusion)
      · rw [if_neg (by rw [L3, le_n (by omega) (by omega)]; exact q)]
        exact go (by rw [e, decide_eq_true (show y < 3 by omega)]; rfl)
    · rw [if_neg (by rw [e]; decide), if_pos (by rw [e]; rfl)]
      by_cases q : 9 ≤ y
      · rw [if_pos (by rw [L9, le_n (by omega) (by omega)]; exact q)]
        exact no (by unfold okp; rw [e, decide_eq_false (show ¬ y < 9 by omega)]; exact Bool.noConfusion)
      · rw [if_neg (by rw [L9, le_n (by omega) (by omega)]; exact q)]
        exact go (by rw [e, decide_eq_true (show y < 9 by omega)]; rfl)
    · rw [if_pos (by rw [e]; rfl)]
      exact go (by rw [e]; rfl)
