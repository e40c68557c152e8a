theorem HabX_r {n c : Nat} {D F T I C : Nat → Nat} {bd bf bt bi bc : Nat → Int32} (hn : n ≤ 4) (hc : c < n) (hX : HabX n D F T I C bd bf bt bi bc) : HabX n D (Fr F (nI c)) T I C bd (upd bf c 0) bt bi bc := by
  intro x hx
  obtain ⟨e1, e2, e3, e4, e5⟩ := hX x hx
  refine ⟨e1, ?_, e3, e4, e5⟩
  unfold Fr
  by_cases e : x = c
  · subst e; rw [up_s, if_pos rfl]; rfl
  · rw [up_n e, if_neg (by rw [eq_n (by omega) (by omega)]; exact e)]; exact e2
theorem Fr_same {n c : Nat} {F : Nat → Nat} (hn : n ≤ 4) (hc : c < n) (z : F c = 0) : ∀ x, x < n → Fr F (nI c) x = F x := by
  intro x hx
  unfold Fr
  by_cases e : x = c
  · subst e; rw [if_pos rfl, z]
  · rw [if_neg (by rw [eq_n (by omega) (by omega)]; exact e)]
theorem up_back {f : Nat → Int32} {c : Nat} {x : Int32} : upd (upd f c x) c (f c) = f := by
  funext y
  by_cases e : y = c
  · subst e; rw [up_s]
  · rw [up_n e, up_n e]
theorem wh_go {N n l : Nat} {D F T I C : Nat → Nat} {bd bf bt bi bc md mi mn : Nat → Int32} (hN : 200000 ≤ N) (hB : HabB n D F T I C) (hX : HabX n D F T I C bd bf bt bi bc) (hM' : HabM n D F T I C md mi mn) (hl : l ≤ 5) :
    ∀ (j g c b : Nat) (w : Int32) (P Q A K : Nat → Int32) (L : Nat → Int64), c + j = n → j < g → b ≤ 4 ^ l - dcN D F T I C l n (2 ^ n - 1) (4 ^ l) → ∃ r P' L' Q' A' K', f_X5_whom_23 N (nI l) (nI n) bd bt bi bc (fun z2_23 z3_23 z4_23 zvt_bench_from_23 zvt_bench_pages_23 zvt_drawers_lying_23 => some (z2_23, (zvt_bench_from_23, zvt_bench_pages_23, zvt_drawers_lying_23))) g w (nI b) (nI c) bf P L = some (r, (bf, P', L')) ∧ f_X6_whom_29 N (nI l) (nI n) md mi mn (fun z2_29 z3_29 z4_29 zvt_pages_29 zvt_table_29 zvt_keys_29 => some (z3_29, (zvt_pages_29, zvt_table_29, zvt_keys_29))) g (nI b) w (nI c) Q A K = some (r, (Q', A', K')) := by
  have hp := p4_le5 hl
  have hn := hB.1
  intro j
  induction j with
  | zero =>
    intro g c b w P Q A K L hc hg _
    obtain ⟨g', rfl⟩ : ∃ g', g = g' + 1 := ⟨g - 1, by omega⟩
    have : c = n := by omega
    subst this
    exact ⟨w, P, L, Q, A, K, by rw [f_X5_whom_23, if_pos (by rw [le_n (by omega) (by omega)]; omega)], by rw [f_X6_whom_29, if_pos (by rw [le_n (by omega) (by omega)]; omega)]⟩
  | succ j ih =>
    intro g c b w P Q A K L hc hg hb
    obtain ⟨g', rfl⟩ : ∃ g', g = g' + 1 := ⟨g - 1, by omega⟩
    have hcn : c < n := by omega
    obtain ⟨Q1, A1', K1, m1⟩ := bbM (nI c) Q A K hN hB hM' hl
    have ef := (hX c hcn).2.1
    have hF := (hB.2 c hcn).2.1
    rw [f_X5_whom_23, if_neg (show ¬ nI n ≤ nI c by rw [le_n (by omega) (by omega)]; omega), f_X6_whom_29, if_neg (show ¬ nI n ≤ nI c by rw [le_n (by omega) (by omega)]; omega), A1r, gI_n (by omega) (by omega), cl_n (by omega), m1, Option.bind_some]
    dsimp only
    by_cases z : F c = 0
    · rw [if_pos (by rw [ef, z]; rfl), if_pos (by rw [le_n (by omega) (by omega)]; omega)]
      rw [dcN_cong (F' := F) (Fr_same hn hcn z) (fun _ _ => rfl), if_pos (by rw [le_n (by omega) (by omega)]; exact hb)]
      exact ih g' (c + 1) b w P Q1 A1' K1 L (by omega) (by omega) hb
    · obtain ⟨P1, L1', x1⟩ := blX P L hN (HabB_r hB (nI c)) (HabX_r hn hcn hX) hl
      have x2 : f_X5_blindnessReformed N (nI l) (nI c) (nI n) bd bf bt bi bc P L = some (nI (4 ^ l - dcN D (Fr F (nI c)) T I C l n (2 ^ n - 1) (4 ^ l)), (bf, P1, L1')) := by
        unfold f_X5_blindnessReformed
        rw [gI_n (by omega) (by omega), gI_n (by omega) (by omega), cl_n (by omega), x1, Option.bind_some, gI_n (by omega) (by omega), up_back]
      rw [if_neg (by rw [ef]; exact nI_ne0 (by omega) (by omega)), x2, Option.bind_some]
      dsimp only
      by_cases y : b ≤ 4 ^ l - dcN D (Fr F (nI c)) T I C l n (2 ^ n - 1) (4 ^ l)
      · rw [if_pos (by rw [le_n (by omega) (by omega)]; exact y), if_pos (by rw [le_n (by omega) (by omega)]; exact y)]
        exact ih g' (c + 1) b w P1 Q1 A1' K1 L1' (by omega) (by omega) hb
      · rw [if_neg (by rw [le_n (by omega) (by omega)]; exact y), if_neg (by rw [le_n (by omega) (by omega)]; exact y)]
        exact ih g' (c + 1) _ (nI c) P1 Q1 A1' K1 L1' (by omega) (by omega) (by omega)
