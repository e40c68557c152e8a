set_option maxHeartbeats 4000000 in
theorem sim_write (N : Nat) (hN : 200000 ≤ N) (vx_spoken : Int32) (vx_nowSeed : Int64) (vx_text_size : Int32) (vx_text_letters : Nat → Int32) (vx_bench_size : Int32) (vx_bench_drops : Nat → Int32) (vx_bench_from : Nat → Int32) (vx_bench_to : Nat → Int32) (vx_bench_tires : Nat → Int32) (vx_bench_copies : Nat → Int32) (vx_acts_size : Int32) (vx_acts_before : Nat → Int64) (vx_told : Nat → Int32) (vx_kept : Nat → Int64) (vm_clerks : Int32) (vm_length : Int32) (vm_acts : Int32) (vm_next : Int32) (vm_seed : Int64) (vm_drops : Nat → Int32) (vm_tires : Nat → Int32) (vm_now : Nat → Int32) (vm_told : Nat → Int32) (vm_text : Nat → Int32) (vm_row : Nat → Int32) (vm_isKept : Nat → Int32) (vm_kept : Nat → Int32) (hI : Inv vx_spoken vx_nowSeed vx_text_size vx_text_letters vx_bench_size vx_bench_drops vx_bench_from vx_bench_to vx_bench_tires vx_bench_copies vx_acts_size vx_acts_before vx_told vx_kept vm_clerks vm_length vm_acts vm_next vm_seed vm_drops vm_tires vm_now vm_told vm_text vm_row vm_isKept vm_kept) (a1 : Int32) : ∃ (R : Int32 × Int32 × (Nat → Int32)) (S : Int32 × Int32 × (Nat → Int32)), f_X5_write N a1 vx_text_size vx_text_letters = some R ∧ f_X6_write N a1 vm_length vm_text = some S ∧ R.1 = S.1 ∧ Inv vx_spoken vx_nowSeed R.2.1 R.2.2 vx_bench_size vx_bench_drops vx_bench_from vx_bench_to vx_bench_tires vx_bench_copies vx_acts_size vx_acts_before vx_told vx_kept vm_clerks S.2.1 vm_acts vm_next vm_seed vm_drops vm_tires vm_now vm_told S.2.2 vm_row vm_isKept vm_kept := by
  obtain ⟨tn, n, m, v, la, nx, D, I, F, T, C, t, ⟨htn, hts, hml, hl⟩, hC, hO, hX, hM, hTo, hA, hKp, hs⟩ := hI
  subst hts; subst hml
  unfold f_X5_write f_X6_write
  rcases chkI N a1 0 255 256 (by decide) (by decide) (by decide) with ⟨hi, ⟨h, h2⟩ | ⟨h1, h, h2⟩⟩ | ⟨j, hj, rfl, hi⟩
  · rw [hi, Option.bind_some, if_pos h, if_pos rfl]
    exact ⟨_, _, rfl, rfl, rfl, tn, n, m, v, la, nx, D, I, F, T, C, t, ⟨htn, rfl, rfl, hl⟩, hC, hO, hX, hM, hTo, hA, hKp, hs⟩
  · rw [hi, Option.bind_some, if_neg h1, if_neg (by rw [Int32.le_iff_toInt_le, show ((255:Int32)).toInt = 255 from by decide]; omega), if_pos rfl]
    exact ⟨_, _, rfl, rfl, rfl, tn, n, m, v, la, nx, D, I, F, T, C, t, ⟨htn, rfl, rfl, hl⟩, hC, hO, hX, hM, hTo, hA, hKp, hs⟩
  · rw [hi, Option.bind_some, if_neg (nI_pos (by omega)), if_pos (by rw [L255, le_n (by omega) (by omega)]; omega), if_neg (show ¬ (1:Int32) = 0 by decide)]
    by_cases h3 : tn = 32
    · subst h3
      rw [if_neg (show ¬ nI 32 < (32:Int32) by decide), if_pos (show nI 32 = (32:Int32) from rfl)]
      exact ⟨_, _, rfl, rfl, rfl, 32, n, m, v, la, nx, D, I, F, T, C, t, ⟨by omega, rfl, rfl, hl⟩, hC, hO, hX, hM, hTo, hA, hKp, hs⟩
    · rw [if_pos (show nI tn < (32:Int32) by rw [L32, lt_n (by omega) (by omega)]; omega), if_neg (show ¬ nI tn = (32:Int32) by rw [L32, eq_n (by omega) (by omega)]; exact h3)]
      unfold f_X2_add
      rw [if_neg (by rw [L32, le_n (by omega) (by omega)]; omega), gI_n (by omega) (by omega), gI_n (by omega) (by omega), cl_n (by omega), A1r, Option.bind_some]
      refine ⟨_, _, rfl, rfl, rfl, tn + 1, n, m, v, la, nx, D, I, F, T, C, t, ⟨by omega, rfl, rfl, fun k hk => ?_⟩, hC, hO, hX, hM, hTo, hA, hKp, hs⟩
      by_cases e : k = tn
      · subst e; simp only [up_s]
      · simp only [up_n e]
        exact hl k (by omega)
set_option maxHeartbeats 4000000 in
theorem sim_wipe (N : Nat) (hN : 200000 ≤ N) (vx_spoken : Int32) (vx_nowSeed : Int64) (vx_text_size : Int32) (vx_text_letters : Nat → Int32) (vx_bench_size : Int32) (vx_bench_drops : Nat → Int32) (vx_bench_from : Nat → Int32) (vx_bench_to : Nat → Int32) (vx_bench_tires : Nat → Int32) (vx_bench_copies : Nat → Int32) (vx_acts_size : Int32) (vx_acts_before : Nat → Int64) (vx_told : Nat → Int32) (vx_kept : Nat → Int64) (vm_clerks : Int32) (vm_length : Int32) (vm_acts : Int32) (vm_next : Int32) (vm_seed : Int64) (vm_drops : Nat → Int32) (vm_tires : Nat → Int32) (vm_now : Nat → Int32) (vm_told : Nat → Int32) (vm_text : Nat → Int32) (vm_row : Nat → Int32) (vm_isKept : Nat → Int32) (vm_kept : Nat → Int32) (hI : Inv vx_spoken vx_nowSeed vx_text_size vx_text_letters vx_bench_size vx_bench_drops vx_bench_from vx_bench_to vx_bench_tires vx_bench_copies vx_acts_size vx_acts_before vx_told vx_kept vm_clerks vm_length vm_acts vm_next vm_seed vm_drops vm_tires vm_now vm_told vm_text vm_row vm_isKept vm_kept) : ∃ (R : Int32 × Int32) (S : Int32 × Int32), f_X5_wipe N  vx_text_size = some R ∧ f_X6_wipe N  vm_length = some S ∧ R.1 = S.1 ∧ Inv vx_spoken vx_nowSeed R.2 vx_text_letters vx_bench_size vx_bench_drops vx_bench_from vx_bench_to vx_bench_tires vx_bench_copies vx_acts_size vx_acts_before vx_told vx_kept vm_clerks S.2 vm_acts vm_next vm_seed vm_drops vm_tires vm_now vm_told vm_text vm_row vm_isKept vm_kept := by
  obtain ⟨tn, n, m, v, la, nx, D, I, F, T, C, t, ⟨htn, hts, hml, hl⟩, hC, hO, hX, hM, hTo, hA, hKp, hs⟩ := hI
  exact ⟨_, _, rfl, rfl, by rw [hts, hml], 0, n, m, v, la, nx, D, I, F, T, C, t, ⟨by omega, rfl, rfl, fun k hk => absurd hk (Nat.not_lt_zero k)⟩, hC, hO, hX, hM, hTo, hA, hKp, hs⟩
set_option maxHeartbeats 4000000 in
theorem sim_fault (N : Nat) (hN : 200000 ≤ N) (vx_spoken : Int32) (vx_nowSeed : Int64) (vx_text_size : Int32) (vx_text_letters : Nat → Int32) (vx_bench_size : Int32) (vx_bench_drops : Nat → Int32) (vx_bench_from : Nat → Int32) (vx_bench_to : Nat → Int32) (vx_bench_tires : Nat → Int32) (vx_bench_copies : Nat → Int32) (vx_acts_size : Int32) (vx_acts_before : Nat → Int64) (vx_told : Nat → Int32) (vx_kept : Nat → Int64) (vm_clerks : Int32) (vm_length : Int32) (vm_acts : Int32) (vm_next : Int32) (vm_seed : Int64) (vm_drops : Nat → Int32) (vm_tires : Nat → Int32) (vm_now : Nat → Int32) (vm_told : Nat → Int32) (vm_text : Nat → Int32) (vm_row : Nat → Int32) (vm_isKept : Nat → Int32) (vm_kept : Nat → Int32) (hI : Inv vx_spoken vx_nowSeed vx_text_size vx_text_letters vx_bench_size vx_bench_drops vx_bench_from vx_bench_to vx_bench_tires vx_bench_copies vx_acts_size vx_acts_before vx_told vx_kept vm_clerks vm_length vm_acts vm_next vm_seed vm_drops vm_tires vm_now vm_told vm_text vm_row vm_isKept vm_kept) : ∃ (R : Int32) (S : Int32), f_X5_fault N  vx_text_size vx_text_letters = some R ∧ f_X6_fault N  vm_length vm_text = some S ∧ R = S ∧ Inv vx_spoken vx_nowSeed vx_text_size vx_text_letters vx_bench_size vx_bench_drops vx_bench_from vx_bench_to vx_bench_tires vx_bench_copies vx_acts_size vx_acts_before vx_told vx_kept vm_clerks vm_length vm_acts vm_next vm_seed vm_drops vm_tires vm_now vm_told vm_text vm_row vm_isKept vm_kept := by
  obtain ⟨tn, n, m, v, la, nx, D, I, F, T, C, t, hT, hC, hO, hX, hM, hTo, hA, hKp, hs⟩ := id hI
  obtain ⟨htn, hts, hml, hl⟩ := id hT
  subst hts; subst hml
  obtain ⟨r, h1, h2, -⟩ := flt2 hN htn hl
  refine ⟨r, r, ?_, h2, rfl, hI⟩
  unfold f_X5_fault
  rw [h1]; rfl
set_option maxHeartbeats 4000000 in
theorem sim_court (N : Nat) (hN : 200000 ≤ N) (vx_spoken : Int32) (vx_nowSeed : Int64) (vx_text_size : Int32) (vx_text_letters : Nat → Int32) (vx_bench_size : Int32) (vx_bench_drops : Nat → Int32) (vx_bench_from : Nat → Int32) (vx_bench_to : Nat → Int32) (vx_bench_tires : Nat → Int32) (vx_bench_copies : Nat → Int32) (vx_acts_size : Int32) (vx_acts_before : Nat → Int64) (vx_told : Nat → Int32) (vx_kept : Nat → Int64) (vm_clerks : Int32) (vm_length : Int32) (vm_acts : Int32) (vm_next : Int32) (vm_seed : Int64) (vm_drops : Nat → Int32) (vm_tires : Nat → Int32) (vm_now : Nat → Int32) (vm_told : Nat → Int32) (vm_text : Nat → Int32) (vm_row : Nat → Int32) (vm_isKept : Nat → Int32) (vm_kept : Nat → Int32) (hI : Inv vx_spoken vx_nowSeed vx_text_size vx_text_letters vx_bench_size vx_bench_drops vx_bench_from vx_bench_to vx_bench_tires vx_bench_copies vx_acts_size vx_acts_before vx_told vx_kept vm_clerks vm_length vm_acts vm_next vm_seed vm_drops vm_tires vm_now vm_told vm_text vm_row vm_isKept vm_kept) : ∃ (R : Int32 × Int32 × Int32 × (Nat → Int32) × (Nat → Int32) × (Nat → Int32) × (Nat → Int32) × (Nat → Int32) × Int32 × (Nat → Int32) × (Nat → Int64)) (S : Int32 × Int32 × Int32 × (Nat → Int32) × (Nat → Int32) × (Nat → Int32) × (Nat → Int32) × (Nat → Int32)), f_X5_court N  vx_spoken vx_text_size vx_text_letters vx_bench_size vx_bench_drops vx_bench_from vx_bench_to vx_bench_tires vx_bench_copies vx_acts_size vx_told vx_kept = some R ∧ f_X6_court N  vm_clerks vm_length vm_acts vm_drops vm_tires vm_now vm_told vm_text vm_isKept = some S ∧ R.1 = S.1 ∧ Inv R.2.1 vx_nowSeed vx_text_size vx_text_letters R.2.2.1 R.2.2.2.1 R.2.2.2.2.1 R.2.2.2.2.2.1 R.2.2.2.2.2.2.1 R.2.2.2.2.2.2.2.1 R.2.2.2.2.2.2.2.2.1 vx_acts_before R.2.2.2.2.2.2.2.2.2.1 R.2.2.2.2.2.2.2.2.2.2 S.2.1 vm_length S.2.2.1 vm_next vm_seed S.2.2.2.1 S.2.2.2.2.1 S.2.2.2.2.2.1 S.2.2.2.2.2.2.1 vm_text vm_row S.2.2.2.2.2.2.2 vm_kept := by
  obtain ⟨tn, n, m, v, la, nx, D, I, F, T, C, t, hT, hC, hO, hX, hM, hTo, hA, hKp, hs⟩ := id hI
  obtain ⟨htn, hts, hml, hl⟩ := id hT
  subst hts; subst hml
  obtain ⟨r, h1, h2, h3⟩ := flt2 hN htn hl
  by_cases r9 : r = -9
  · subst r9
    obtain ⟨ok, t0, t6⟩ := h3 rfl
    obtain ⟨q, hq⟩ : ∃ q, tn = 6 * q + 1 := ⟨(tn - 1) / 6, by omega⟩
    have hq4 : q ≤ 4 := by
      rcases Nat.lt_or_ge tn 26 with z | z
      · omega
      · have := ok 25 (by omega)
        unfold okL at this
        rw [if_neg (by omega), if_pos (by omega)] at this
        cases this
    subst hq
    obtain ⟨told', f1, f2⟩ := fillI (N := N) (n := 4) (0:Int32) vx_told hN (by decide)
    obtain ⟨kept', g1, g2⟩ := fillL (N := N) (n := 2) (0:Int64) vx_kept hN (by decide)
    obtain ⟨d', f', t', i', p', x1, x2⟩ := rF_loop (N := N) vx_text_letters htn (fun z2_14 zvt_drops_14 zvt_from_14 zvt_to_14 zvt_tires_14 zvt_copies_14 => some ((if (4:Int32) < nI q then (4:Int32) else nI q), zvt_drops_14, zvt_from_14, zvt_to_14, zvt_tires_14, zvt_copies_14)) 4 N 0 vx_bench_drops vx_bench_from vx_bench_to vx_bench_tires vx_bench_copies (by omega) (by omega) (fun x hx => by omega)
    have en : (nI (6 * q + 1) - (1:Int32)) / (6:Int32) = nI q := by
      rw [L1, sub_n (by omega), L6, div_n (by omega) (by omega) (by omega), show (6 * q + 1 - 1) / 6 = q by omega]
    obtain ⟨md', mi', mw', mo', y1, y2, y3⟩ := rM_loop (N := N) vm_text hq4 (fun z1_34 zvt_drops_34 zvt_tires_34 zvt_now_34 zvt_told_34 => some (((nI (6 * q + 1) - (1:Int32)) / (6:Int32)), (((nI (6 * q + 1) - (1:Int32)) / (6:Int32)), (0:Int32), zvt_drops_34, zvt_tires_34, zvt_now_34, zvt_told_34, (upd (upd vm_isKept 0 (0:Int32)) 1 (0:Int32))))) 4 N 0 vm_drops vm_tires (upd vm_now 0 (0:Int32)) vm_told (by omega) (by omega) ⟨up_s, fun x hx => by omega⟩
    have X5 : f_X5_court N vx_spoken (nI (6 * q + 1)) vx_text_letters vx_bench_size vx_bench_drops vx_bench_from vx_bench_to vx_bench_tires vx_bench_copies vx_acts_size vx_told vx_kept = some (nI q, ((1:Int32), nI q, d', f', t', i', p', (0:Int32), told', kept')) := by
      unfold f_X5_court f_X1_readFrom f_X2_clerksTold
      rw [h1, Option.bind_some, if_pos rfl, en, Option.bind_some]
      rw [show nI 0 = (0:Int32) from rfl] at x1
      rw [x1, Option.bind_some]
      rw [f1, Option.bind_some, g1, Option.bind_some]
      have : (if (4:Int32) < nI q then (4:Int32) else nI q) = nI q := by
        rw [if_neg]; rw [L4, lt_n (by omega) (by omega)]; omega
      simp only [this]
    have M6 : f_X6_court N vm_clerks (nI (6 * q + 1)) vm_acts vm_drops vm_tires vm_now vm_told vm_text vm_isKept = some (nI q, (nI q, (0:Int32), md', mi', mw', mo', (upd (upd vm_isKept 0 (0:Int32)) 1 (0:Int32)))) := by
      unfold f_X6_court
      rw [h2, Option.bind_some, if_pos rfl]
      rw [show nI 0 = (0:Int32) from rfl] at y1
      refine Eq.trans y1 ?_
      rw [en]
    -- the letters of a clerk
    have ltr1 : ∀ c, c < q → ∀ w, w ≤ 5 → ltr (6 * q + 1) vx_text_letters c w = vm_text (1 + 6 * c + w) := by
      intro c hc w hw
      unfold ltr
      rw [if_neg (by omega), hl _ (by omega)]
    have ltr0 : ∀ c, q ≤ c → ∀ w, ltr (6 * q + 1) vx_text_letters c w = 45 := by
      intro c hc w
      unfold ltr
      rw [if_pos (by omega)]
    have k1 : ∀ c, c < q → vm_text (2 + 6 * c) = 45 ∨ ((97:Nat) : Int) ≤ (vm_text (2 + 6 * c)).toInt ∧ (vm_text (2 + 6 * c)).toInt ≤ ((100:Nat) : Int) := by
      intro c hc
      have z := ok (2 + 6 * c) (by omega)
      unfold okL at z
      rw [if_neg (by omega), if_neg (by omega), if_neg (by omega), if_pos (by omega)] at z
      exact dec_t.mp z
    have k2 : ∀ c, c < q → vm_text (3 + 6 * c) = 45 ∨ ((97:Nat) : Int) ≤ (vm_text (3 + 6 * c)).toInt ∧ (vm_text (3 + 6 * c)).toInt ≤ ((100:Nat) : Int) := by
      intro c hc
      have z := ok (3 + 6 * c) (by omega)
      unfold okL at z
      rw [if_neg (by omega), if_neg (by omega), if_neg (by omega), if_neg (by omega), if_pos (by omega)] at z
      exact dec_t.mp z
    have k3 : ∀ c, c < q → (vm_text (4 + 6 * c) = 45 ∨ ((97:Nat) : Int) ≤ (vm_text (4 + 6 * c)).toInt ∧ (vm_text (4 + 6 * c)).toInt ≤ ((100:Nat) : Int)) ∧ (vm_text (3 + 6 * c) ≠ 45 → vm_text (4 + 6 * c) ≠ 45) := by
      intro c hc
      have z := ok (4 + 6 * c) (by omega)
      unfold okL at z
      rw [if_neg (by omega), if_neg (by omega), if_neg (by omega), if_neg (by omega), if_neg (by omega), if_pos (by omega), show 4 + 6 * c - 1 = 3 + 6 * c by omega] at z
      by_cases p : vm_text (3 + 6 * c) = 45
      · rw [if_pos p] at z
        exact ⟨Or.inl (dec_t.mp z), fun y => absurd p y⟩
      · rw [if_neg p] at z
        have z2 := (dec_t.mp z).1
        refine ⟨Or.inr z2, fun _ e => ?_⟩
        rw [e, show ((45:Int32)).toInt = 45 from by decide] at z2
        omega
    have k4 : ∀ c, c < q → 48 ≤ (vm_text (5 + 6 * c)).toInt ∧ (vm_text (5 + 6 * c)).toInt ≤ 57 := by
      intro c hc
      have z := ok (5 + 6 * c) (by omega)
      unfold okL at z
      rw [if_neg (by omega), if_neg (by omega), if_neg (by omega), if_neg (by omega), if_neg (by omega), if_neg (by omega), if_pos (by omega)] at z
      exact dec_t.mp z
    have k5 : ∀ c, c < q → vm_text (6 + 6 * c) = 45 ∨ ((48:Nat) : Int) ≤ (vm_text (6 + 6 * c)).toInt ∧ (vm_text (6 + 6 * c)).toInt ≤ ((47 + c : Nat) : Int) := by
      intro c hc
      have z := ok (6 + 6 * c) (by omega)
      unfold okL at z
      rw [if_neg (by omega), if_neg (by omega), if_neg (by omega), if_neg (by omega), if_neg (by omega), if_neg (by omega), if_neg (by omega)] at z
      rcases dec_t.mp z with z | z
      · exact Or.inl z
      · right; omega
    have v1 := fun c hc => vl_ok (lo := 97) (hi := 100) (k1 c hc) (by omega) (by omega)
    have v2 := fun c hc => vl_ok (lo := 97) (hi := 100) (k2 c hc) (by omega) (by omega)
    have v3 := fun c hc => vl_ok (lo := 97) (hi := 100) (k3 c hc).1 (by omega) (by omega)
    have v5 := fun c hc => vl_ok (lo := 48) (hi := 47 + c) (k5 c hc) (by omega) (by omega)
    have v4 : ∀ c, c < q → vm_text (5 + 6 * c) - 48 = nI ((vm_text (5 + 6 * c)).toInt - 48).toNat ∧ ((vm_text (5 + 6 * c)).toInt - 48).toNat ≤ 9 := by
      intro c hc
      have z := k4 c hc
      obtain ⟨j, hj, e⟩ : ∃ j, j < 58 ∧ vm_text (5 + 6 * c) = nI j := by
        rcases a_cases (vm_text (5 + 6 * c)) 58 (by decide) with ⟨-, y⟩ | ⟨-, -, y⟩ | y
        · omega
        · omega
        · exact y
      rw [e, nI_toInt (by omega)] at z
      rw [e, nI_toInt (by omega), L48, sub_n (by omega)]
      exact ⟨by congr 1; omega, by omega⟩
    refine ⟨_, _, X5, M6, rfl, 6 * q + 1, q, 0, 0, 0, nx, fun c => if c < q then vl (vm_text (2 + 6 * c)) 97 else 0, fun c => ((vm_text (5 + 6 * c)).toInt - 48).toNat, fun c => if c < q then vl (vm_text (3 + 6 * c)) 97 else 0, fun c => if c < q then vl (vm_text (4 + 6 * c)) 97 else 0, fun c => if c < q then vl (vm_text (6 + 6 * c)) 48 else 0, fun _ => none, hT, ⟨hq4, rfl, rfl, fun c hc => ?_⟩, ⟨by omega, by decide, fun c hc => ?_, fun c hc => ?_⟩, ⟨rfl, fun c hc => ?_⟩, ⟨y2, fun c hc => ?_⟩, fun c hc => Or.inl ⟨rfl, f2 c (by omega), (y3 c (by omega)).1⟩, ⟨by omega, hA.2.1, rfl, rfl, hA.2.2.2.2.1, fun i hi => by omega⟩, fun s hs2 => Or.inl ⟨g2 s hs2, ?_⟩, hs⟩
    · obtain ⟨a1, -, -, a4, -⟩ := x2 c (by omega)
      obtain ⟨b1, -, -, b4, -⟩ := (y3 c (by omega)).2 hc
      simp only [if_pos hc]
      refine ⟨(v1 c hc).2.2.1, (v4 c hc).2, ?_, ?_, ?_, ?_⟩
      · rw [a1, ltr1 c hc 1 (by omega), show 1 + 6 * c + 1 = 2 + 6 * c by omega]; exact (v1 c hc).1
      · rw [a4, ltr1 c hc 4 (by omega), show 1 + 6 * c + 4 = 5 + 6 * c by omega]; exact (v4 c hc).1
      · rw [b1]; exact (v1 c hc).2.1
      · rw [b4]; exact (v4 c hc).1
    · by_cases z : c < q
      · simp only [if_pos z]
        have := (v5 c z).2.2.1
        exact ⟨(v2 c z).2.2.1, (v3 c z).2.2.1, by omega⟩
      · simp only [if_neg z]
        exact ⟨by omega, by omega, by omega⟩
    · simp only [if_pos hc]
      have := (v5 c hc).2.2.1
      refine ⟨fun z y => ?_, by omega⟩
      exact (k3 c hc).2 (fun e => z ((v2 c hc).2.2.2.mpr e)) ((v3 c hc).2.2.2.mp y)
    · obtain ⟨-, a2, a3, -, a5⟩ := x2 c hc
      by_cases z : c < q
      · simp only [if_pos z]
        refine ⟨?_, ?_, ?_⟩
        · rw [a2, ltr1 c z 2 (by omega), show 1 + 6 * c + 2 = 3 + 6 * c by omega]; exact (v2 c z).1
        · rw [a3, ltr1 c z 3 (by omega), show 1 + 6 * c + 3 = 4 + 6 * c by omega]; exact (v3 c z).1
        · rw [a5, ltr1 c z 5 (by omega), show 1 + 6 * c + 5 = 6 + 6 * c by omega]; exact (v5 c z).1
      · simp only [if_neg z]
        refine ⟨?_, ?_, ?_⟩
        · rw [a2, ltr0 c (by omega) 2]; rfl
        · rw [a3, ltr0 c (by omega) 3]; rfl
        · rw [a5, ltr0 c (by omega) 5]; rfl
    · obtain ⟨-, b2, b3, -, b5⟩ := (y3 c (by omega)).2 hc
      simp only [if_pos hc]
      exact ⟨by rw [b2]; exact (v2 c hc).2.1, by rw [b3]; exact (v3 c hc).2.1, by rw [b5]; exact (v5 c hc).2.1⟩
    · rcases (show s = 0 ∨ s = 1 by omega) with rfl | rfl
      · show upd (upd vm_isKept 0 0) 1 0 0 = 0
        rw [up_n (by decide), up_s]
      · show upd (upd vm_isKept 0 0) 1 0 1 = 0
        rw [up_s]
  · have X5 : f_X5_court N vx_spoken (nI tn) vx_text_letters vx_bench_size vx_bench_drops vx_bench_from vx_bench_to vx_bench_tires vx_bench_copies vx_acts_size vx_told vx_kept = some ((-3:Int32), (vx_spoken, vx_bench_size, vx_bench_drops, vx_bench_from, vx_bench_to, vx_bench_tires, vx_bench_copies, vx_acts_size, vx_told, vx_kept)) := by
      unfold f_X5_court
      rw [h1, Option.bind_some, if_neg r9]
    have M6 : f_X6_court N vm_clerks (nI tn) vm_acts vm_drops vm_tires vm_now vm_told vm_text vm_isKept = some ((-3:Int32), (vm_clerks, vm_acts, vm_drops, vm_tires, vm_now, vm_told, vm_isKept)) := by
      unfold f_X6_court
      rw [h2, Option.bind_some, if_neg r9]
    exact ⟨_, _, X5, M6, rfl, hI⟩
set_option maxHeartbeats 4000000 in
theorem sim_clerk (N : Nat) (hN : 200000 ≤ N) (vx_spoken : Int32) (vx_nowSeed : Int64) (vx_text_size : Int32) (vx_text_letters : Nat → Int32) (vx_bench_size : Int32) (vx_bench_drops : Nat → Int32) (vx_bench_from : Nat → Int32) (vx_bench_to : Nat → Int32) (vx_bench_tires : Nat → Int32) (vx_bench_copies : Nat → Int32) (vx_bench_pages : Nat → Int32) (vx_acts_size : Int32) (vx_acts_before : Nat → Int64) (vx_told : Nat → Int32) (vx_kept : Nat → Int64) (vm_clerks : Int32) (vm_length : Int32) (vm_acts : Int32) (vm_next : Int32) (vm_seed : Int64) (vm_drops : Nat → Int32) (vm_tires : Nat → Int32) (vm_now : Nat → Int32) (vm_told : Nat → Int32) (vm_text : Nat → Int32) (vm_pages : Nat → Int32) (vm_row : Nat → Int32) (vm_isKept : Nat → Int32) (vm_kept : Nat → Int32) (hI : Inv vx_spoken vx_nowSeed vx_text_size vx_text_letters vx_bench_size vx_bench_drops vx_bench_from vx_bench_to vx_bench_tires vx_bench_copies vx_acts_size vx_acts_before vx_told vx_kept vm_clerks vm_length vm_acts vm_next vm_seed vm_drops vm_tires vm_now vm_told vm_text vm_row vm_isKept vm_kept) (a1 : Int32) (a2 : Int32) : ∃ (R : Int32 × (Nat → Int32)) (S : Int32 × (Nat → Int32)), f_X5_clerk N a1 a2 vx_spoken vx_bench_size vx_bench_drops vx_bench_from vx_bench_to vx_bench_tires vx_bench_copies vx_bench_pages vx_told = some R ∧ f_X6_clerk N a1 a2 vm_clerks vm_drops vm_tires vm_now vm_told vm_pages = some S ∧ R.1 = S.1 ∧ Inv vx_spoken vx_nowSeed vx_text_size vx_text_letters vx_bench_size vx_bench_drops vx_bench_from vx_bench_to vx_bench_tires vx_bench_copies vx_acts_size vx_acts_before vx_told vx_kept vm_clerks vm_length vm_acts vm_next vm_seed vm_drops vm_tires vm_now vm_told vm_text vm_row vm_isKept vm_kept := by
  obtain ⟨tn, n, m, v, la, nx, D, I, F, T, C, t, hT, hC, hO, hX, hM, hTo, hA, hKp, hs⟩ := id hI
  obtain rfl := hC.2.1
  obtain rfl := hC.2.2.1
  obtain rfl := hX.1
  obtain ⟨hB, hHX, hHM⟩ := hab_of hC hO hX hM
  have hn := hC.1
  have hm6 := hO.1
  have hv := hO.2.1
  rcases chkC N n hn a1 with ⟨h1, h2⟩ | ⟨c, hc, rfl, h1, h2⟩
  · refine ⟨(-1, vx_bench_pages), (-1, vm_pages), by unfold f_X5_clerk; rw [h1, Option.bind_some, if_pos rfl], by unfold f_X6_clerk; rw [h2, Option.bind_some, if_pos rfl], rfl, hI⟩
  · obtain ⟨P1, q1, q2⟩ := tD vx_bench_pages hN hB hHX hm6 hv
    obtain ⟨P2, q3, q4⟩ := lP9 vm_pages hN hB hHM hm6 hv
    have ok := pgl_ok hB hv n (Nat.le_refl n) c hc
    obtain ⟨b1, b2, b3, b4, b5, b6⟩ := hB.2 c hc
    obtain ⟨e1, e2, e3, e4, e5⟩ := hHX c hc
    obtain ⟨m1, m2, m3, m4, m5⟩ := hHM c hc
    unfold f_X5_clerk f_X6_clerk
    rw [h1, h2, Option.bind_some, Option.bind_some, if_neg n10, if_neg n10, hM.1, q3, Option.bind_some, cl_n (by omega), A1, A5, A9, cl_n (by omega), cl_n (by omega), cl_n (by omega), e1, e2, e3, e4, e5, m1, m2, m3, m4, m5, l1N b1, l1N b2, l1N b3, l1N (Nat.le_trans b5 (by omega)), Option.bind_some, Option.bind_some, Option.bind_some, Option.bind_some]
    simp only [gI_n (show c < 4 by omega) (show (4:Nat) < 2147483648 by decide), gI_n (show 1 + c < 13 by omega) (show (13:Nat) < 2147483648 by decide), gI_n (show 5 + c < 13 by omega) (show (13:Nat) < 2147483648 by decide), gI_n (show 9 + c < 13 by omega) (show (13:Nat) < 2147483648 by decide)]
    by_cases z0 : a2 = 0
    · rw [if_pos z0, if_pos z0]; exact ⟨_, _, rfl, rfl, rfl, hI⟩
    rw [if_neg z0, if_neg z0]
    by_cases z1 : a2 = 1
    · rw [if_pos z1, if_pos z1]; exact ⟨_, _, rfl, rfl, rfl, hI⟩
    rw [if_neg z1, if_neg z1]
    by_cases z2 : a2 = 2
    · rw [if_pos z2, if_pos z2]; exact ⟨_, _, rfl, rfl, rfl, hI⟩
    rw [if_neg z2, if_neg z2]
    by_cases z3 : a2 = 3
    · rw [if_pos z3, if_pos z3]; exact ⟨_, _, rfl, rfl, rfl, hI⟩
    rw [if_neg z3, if_neg z3]
    by_cases z4 : a2 = 4
    · rw [if_pos z4, if_pos z4]; exact ⟨_, _, rfl, rfl, rfl, hI⟩
    rw [if_neg z4, if_neg z4]
    by_cases z5 : a2 = 5
    · rw [if_pos z5, if_pos z5]
      unfold f_X5_pageNow
      rw [q1, Option.bind_some, gI_n (by omega) (by omega), cl_n (by omega), Option.bind_some]
      simp only
      rw [q2 c hc, q4 c hc, wI hN (by omega) ok.2, wO (by omega) ok.2]
      exact ⟨_, _, rfl, rfl, rfl, hI⟩
    rw [if_neg z5, if_neg z5]
    by_cases z6 : a2 = 6
    · rw [if_pos z6, if_pos z6]
      rcases toldCase N hN hTo hn hc with ⟨-, y1, y2, g1, g2⟩ | ⟨a, b, -, ha, hb, d1, d2, y1, y2, g1, g2⟩
      · rw [g1, if_pos y2]
        exact ⟨_, _, rfl, rfl, rfl, hI⟩
      · rw [g1, if_neg y2, d2, wO ha hb]
        exact ⟨_, _, rfl, rfl, rfl, hI⟩
    rw [if_neg z6, if_neg z6]
    exact ⟨_, _, rfl, rfl, rfl, hI⟩
set_option maxHeartbeats 4000000 in
theorem sim_page (N : Nat) (hN : 200000 ≤ N) (vx_spoken : Int32) (vx_nowSeed : Int64) (vx_text_size : Int32) (vx_text_letters : Nat → Int32) (vx_bench_size : Int32) (vx_bench_drops : Nat → Int32) (vx_bench_from : Nat → Int32) (vx_bench_to : Nat → Int32) (vx_bench_tires : Nat → Int32) (vx_bench_copies : Nat → Int32) (vx_bench_pages : Nat → Int32) (vx_acts_size : Int32) (vx_acts_before : Nat → Int64) (vx_told : Nat → Int32) (vx_kept : Nat → Int64) (vm_clerks : Int32) (vm_length : Int32) (vm_acts : Int32) (vm_next : Int32) (vm_seed : Int64) (vm_drops : Nat → Int32) (vm_tires : Nat → Int32) (vm_now : Nat → Int32) (vm_told : Nat → Int32) (vm_text : Nat → Int32) (vm_pages : Nat → Int32) (vm_row : Nat → Int32) (vm_isKept : Nat → Int32) (vm_kept : Nat → Int32) (hI : Inv vx_spoken vx_nowSeed vx_text_size vx_text_letters vx_bench_size vx_bench_drops vx_bench_from vx_bench_to vx_bench_tires vx_bench_copies vx_acts_size vx_acts_before vx_told vx_kept vm_clerks vm_length vm_acts vm_next vm_seed vm_drops vm_tires vm_now vm_told vm_text vm_row vm_isKept vm_kept) (a1 : Int32) (a2 : Int32) : ∃ (R : Int32 × (Nat → Int32)) (S : Int32 × (Nat → Int32)), f_X5_page N a1 a2 vx_spoken vx_bench_size vx_bench_drops vx_bench_from vx_bench_to vx_bench_tires vx_bench_copies vx_bench_pages = some R ∧ f_X6_page N a1 a2 vm_clerks vm_drops vm_tires vm_now vm_pages = some S ∧ R.1 = S.1 ∧ Inv vx_spoken vx_nowSeed vx_text_size vx_text_letters vx_bench_size vx_bench_drops vx_bench_from vx_bench_to vx_bench_tires vx_bench_copies vx_acts_size vx_acts_before vx_told vx_kept vm_clerks vm_length vm_acts vm_next vm_seed vm_drops vm_tires vm_now vm_told vm_text vm_row vm_isKept vm_kept := by
  obtain ⟨tn, n, m, v, la, nx, D, I, F, T, C, t, hT, hC, hO, hX, hM, hTo, hA, hKp, hs⟩ := id hI
  obtain rfl := hC.2.1
  obtain rfl := hC.2.2.1
  obtain rfl := hX.1
  obtain ⟨hB, hHX, hHM⟩ := hab_of hC hO hX hM
  have hn := hC.1
  have hm6 := hO.1
  have hv := hO.2.1
  unfold f_X5_page f_X6_page
  rcases chkC N n hC.1 a1 with ⟨h1, h2⟩ | ⟨c, hc, rfl, h1, h2⟩
  · rw [h1, h2, Option.bind_some, Option.bind_some, if_pos z00, if_pos z00]
    exact ⟨_, _, rfl, rfl, rfl, hI⟩
  · obtain ⟨P1, q1, q2⟩ := tD vx_bench_pages hN hB hHX hO.1 hO.2.1
    obtain ⟨P2, q3, q4⟩ := lP9 vm_pages hN hB hHM hO.1 hO.2.1
    have ok := pgl_ok hB hO.2.1 n (Nat.le_refl n) c hc
    unfold f_X5_pageNow
    rw [h1, h2, Option.bind_some, Option.bind_some, if_neg n10, if_neg n10, hM.1, q1, q3, Option.bind_some, Option.bind_some, gI_n (by omega) (by omega), gI_n (by omega) (by omega), gI_n (by omega) (by omega), cl_n (by omega), Option.bind_some]
    simp only
    rw [q2 c hc, q4 c hc, wO (by omega) ok.2, Option.bind_some]
    rcases chkP hN (Nat.le_trans ok.1 hm6) ok.2 a2 with ⟨g1, g2⟩ | ⟨k, hk, rfl, g1, g2⟩
    · rw [g1, g2, Option.bind_some, Option.bind_some, if_pos rfl]
      exact ⟨_, _, rfl, rfl, rfl, hI⟩
    · rw [g1, g2, Option.bind_some, Option.bind_some, if_neg (by decide), mA (by omega) ok.2 hk, Option.bind_some]
      exact ⟨_, _, rfl, rfl, rfl, hI⟩
set_option maxHeartbeats 4000000 in
theorem sim_trial (N : Nat) (hN : 200000 ≤ N) (vx_spoken : Int32) (vx_nowSeed : Int64) (vx_text_size : Int32) (vx_text_letters : Nat → Int32) (vx_bench_size : Int32) (vx_bench_drops : Nat → Int32) (vx_bench_from : Nat → Int32) (vx_bench_to : Nat → Int32) (vx_bench_tires : Nat → Int32) (vx_bench_copies : Nat → Int32) (vx_acts_size : Int32) (vx_acts_before : Nat → Int64) (vx_told : Nat → Int32) (vx_kept : Nat → Int64) (vm_clerks : Int32) (vm_length : Int32) (vm_acts : Int32) (vm_next : Int32) (vm_seed : Int64) (vm_drops : Nat → Int32) (vm_tires : Nat → Int32) (vm_now : Nat → Int32) (vm_told : Nat → Int32) (vm_text : Nat → Int32) (vm_row : Nat → Int32) (vm_isKept : Nat → Int32) (vm_kept : Nat → Int32) (hI : Inv vx_spoken vx_nowSeed vx_text_size vx_text_letters vx_bench_size vx_bench_drops vx_bench_from vx_bench_to vx_bench_tires vx_bench_copies vx_acts_size vx_acts_before vx_told vx_kept vm_clerks vm_length vm_acts vm_next vm_seed vm_drops vm_tires vm_now vm_told vm_text vm_row vm_isKept vm_kept) (a1 : Int32) : ∃ (R : Int32) (S : Int32), f_X5_trial N a1 vx_spoken = some R ∧ f_X6_trial N a1 vm_now = some S ∧ R = S ∧ Inv vx_spoken vx_nowSeed vx_text_size vx_text_letters vx_bench_size vx_bench_drops vx_bench_from vx_bench_to vx_bench_tires vx_bench_copies vx_acts_size vx_acts_before vx_told vx_kept vm_clerks vm_length vm_acts vm_next vm_seed vm_drops vm_tires vm_now vm_told vm_text vm_row vm_isKept vm_kept := by
  obtain ⟨tn, n, m, v, la, nx, D, I, F, T, C, t, hT, hC, hO, hX, hM, hTo, hA, hKp, hs⟩ := id hI
  obtain rfl := hC.2.1
  obtain rfl := hC.2.2.1
  obtain rfl := hX.1
  obtain ⟨hB, hHX, hHM⟩ := hab_of hC hO hX hM
  have hn := hC.1
  have hm6 := hO.1
  have hv := hO.2.1
  rcases chkP hN hO.1 hO.2.1 a1 with ⟨h1, h2⟩ | ⟨k, hk, e, h1, h2⟩
  · refine ⟨-9, -9, ?_, ?_, rfl, hI⟩
    · unfold f_X5_trial
      rw [h1]; rfl
    · unfold f_X6_trial
      rw [hM.1, wO hO.1 hO.2.1, Option.bind_some, h2, Option.bind_some, if_pos rfl]
  · refine ⟨nI (wd m v k), nI (wd m v k), ?_, ?_, rfl, hI⟩
    · unfold f_X5_trial
      rw [h1]; rfl
    · unfold f_X6_trial
      rw [hM.1, wO hO.1 hO.2.1, Option.bind_some, h2, Option.bind_some, if_neg (by decide), e, mA hO.1 hO.2.1 hk]; rfl
set_option maxHeartbeats 4000000 in
theorem sim_speak (N : Nat) (hN : 200000 ≤ N) (vx_spoken : Int32) (vx_nowSeed : Int64) (vx_text_size : Int32) (vx_text_letters : Nat → Int32) (vx_bench_size : Int32) (vx_bench_drops : Nat → Int32) (vx_bench_from : Nat → Int32) (vx_bench_to : Nat → Int32) (vx_bench_tires : Nat → Int32) (vx_bench_copies : Nat → Int32) (vx_acts_size : Int32) (vx_acts_before : Nat → Int64) (vx_told : Nat → Int32) (vx_kept : Nat → Int64) (vm_clerks : Int32) (vm_length : Int32) (vm_acts : Int32) (vm_next : Int32) (vm_seed : Int64) (vm_drops : Nat → Int32) (vm_tires : Nat → Int32) (vm_now : Nat → Int32) (vm_told : Nat → Int32) (vm_text : Nat → Int32) (vm_row : Nat → Int32) (vm_isKept : Nat → Int32) (vm_kept : Nat → Int32) (hI : Inv vx_spoken vx_nowSeed vx_text_size vx_text_letters vx_bench_size vx_bench_drops vx_bench_from vx_bench_to vx_bench_tires vx_bench_copies vx_acts_size vx_acts_before vx_told vx_kept vm_clerks vm_length vm_acts vm_next vm_seed vm_drops vm_tires vm_now vm_told vm_text vm_row vm_isKept vm_kept) (a1 : Int32) : ∃ (R : Int32 × Int32 × Int32 × (Nat → Int64)) (S : Int32 × Int32 × Int32 × (Nat → Int32) × (Nat → Int32)), f_X5_speak N a1 vx_spoken vx_bench_from vx_bench_to vx_bench_copies vx_acts_size vx_acts_before = some R ∧ f_X6_speak N a1 vm_acts vm_next vm_now vm_row = some S ∧ R.1 = S.1 ∧ Inv R.2.1 vx_nowSeed vx_text_size vx_text_letters vx_bench_size vx_bench_drops vx_bench_from vx_bench_to vx_bench_tires vx_bench_copies R.2.2.1 R.2.2.2 vx_told vx_kept vm_clerks vm_length S.2.1 S.2.2.1 vm_seed vm_drops vm_tires S.2.2.2.1 vm_told vm_text S.2.2.2.2 vm_isKept vm_kept := by
  obtain ⟨tn, n, m, v, la, nx, D, I, F, T, C, t, hT, hC, hO, hX, hM, hTo, hA, hKp, hs⟩ := id hI
  obtain rfl := hC.2.1
  obtain rfl := hC.2.2.1
  obtain rfl := hX.1
  obtain ⟨hB, hHX, hHM⟩ := hab_of hC hO hX hM
  have hn := hC.1
  have hm6 := hO.1
  have hv := hO.2.1
  unfold f_X5_speak f_X6_speak
  rcases chkW N a1 with ⟨g1, g2⟩ | ⟨w, hw, rfl, g1, g2⟩
  · rw [g1, g2, Option.bind_some, Option.bind_some, if_pos z00, if_pos z00]
    exact ⟨_, _, rfl, rfl, rfl, hI⟩
  · rw [g1, g2, Option.bind_some, Option.bind_some, if_neg n10, if_neg n10, hM.1, wI hN hm6 hv, wO hm6 hv, Option.bind_some, Option.bind_some]
    by_cases h6 : m = 6
    · subst h6
      rw [if_neg (show ¬ nI 6 < (6:Int32) by decide), if_pos (show nI 6 = (6:Int32) from rfl)]
      exact ⟨_, _, rfl, rfl, rfl, hI⟩
    · obtain ⟨as', ab', ma', mx', row', la', nx', p1, p2, hA'⟩ := push hN hn hA hO hM
      have hv2 : 4 * v + w < 4 ^ (m + 1) := by rw [Nat.pow_succ]; omega
      rw [if_pos (show nI m < (6:Int32) by rw [L6, lt_n (by omega) (by omega)]; omega), if_neg (show ¬ nI m = (6:Int32) by rw [L6, eq_n (by omega) (by omega)]; exact h6), sN hN hO hX.2, Option.bind_some, p1, p2, Option.bind_some, Option.bind_some, wW (by omega) hv hw, mW (by omega) hv hw, Option.bind_some, Option.bind_some, up_s, wI hN (by omega) hv2, wO (by omega) hv2, Option.bind_some, Option.bind_some]
      exact ⟨_, _, rfl, rfl, rfl, tn, n, m + 1, 4 * v + w, la', nx', D, I, F, T, C, t, hT, hC, ⟨by omega, hv2, hO.2.2⟩, NowX_0 hX, NowM_0 hM, hTo, hA', hKp, hs⟩
set_option maxHeartbeats 4000000 in
theorem sim_strike (N : Nat) (hN : 200000 ≤ N) (vx_spoken : Int32) (vx_nowSeed : Int64) (vx_text_size : Int32) (vx_text_letters : Nat → Int32) (vx_bench_size : Int32) (vx_bench_drops : Nat → Int32) (vx_bench_from : Nat → Int32) (vx_bench_to : Nat → Int32) (vx_bench_tires : Nat → Int32) (vx_bench_copies : Nat → Int32) (vx_acts_size : Int32) (vx_acts_before : Nat → Int64) (vx_told : Nat → Int32) (vx_kept : Nat → Int64) (vm_clerks : Int32) (vm_length : Int32) (vm_acts : Int32) (vm_next : Int32) (vm_seed : Int64) (vm_drops : Nat → Int32) (vm_tires : Nat → Int32) (vm_now : Nat → Int32) (vm_told : Nat → Int32) (vm_text : Nat → Int32) (vm_row : Nat → Int32) (vm_isKept : Nat → Int32) (vm_kept : Nat → Int32) (hI : Inv vx_spoken vx_nowSeed vx_text_size vx_text_letters vx_bench_size vx_bench_drops vx_bench_from vx_bench_to vx_bench_tires vx_bench_copies vx_acts_size vx_acts_before vx_told vx_kept vm_clerks vm_length vm_acts vm_next vm_seed vm_drops vm_tires vm_now vm_told vm_text vm_row vm_isKept vm_kept) : ∃ (R : Int32 × Int32 × Int32 × (Nat → Int64)) (S : Int32 × Int32 × Int32 × (Nat → Int32) × (Nat → Int32)), f_X5_strike N  vx_spoken vx_bench_from vx_bench_to vx_bench_copies vx_acts_size vx_acts_before = some R ∧ f_X6_strike N  vm_acts vm_next vm_now vm_row = some S ∧ R.1 = S.1 ∧ Inv R.2.1 vx_nowSeed vx_text_size vx_text_letters vx_bench_size vx_bench_drops vx_bench_from vx_bench_to vx_bench_tires vx_bench_copies R.2.2.1 R.2.2.2 vx_told vx_kept vm_clerks vm_length S.2.1 S.2.2.1 vm_seed vm_drops vm_tires S.2.2.2.1 vm_told vm_text S.2.2.2.2 vm_isKept vm_kept := by
  obtain ⟨tn, n, m, v, la, nx, D, I, F, T, C, t, hT, hC, hO, hX, hM, hTo, hA, hKp, hs⟩ := id hI
  obtain rfl := hC.2.1
  obtain rfl := hC.2.2.1
  obtain rfl := hX.1
  obtain ⟨hB, hHX, hHM⟩ := hab_of hC hO hX hM
  have hn := hC.1
  have hm6 := hO.1
  have hv := hO.2.1
  unfold f_X5_strike f_X6_strike
  have hp := p4_le hm6
  rw [hM.1]
  by_cases h0 : m = 0
  · subst h0
    have hv0 : v = 0 := by simpa using hv
    subst hv0
    rw [if_pos (show nI (4 ^ 0 + 0) = (1:Int32) from rfl), if_pos (show nI (4096 * 0 + 0) = (0:Int32) from rfl)]
    exact ⟨_, _, rfl, rfl, rfl, hI⟩
  · obtain ⟨as', ab', ma', mx', row', la', nx', p1, p2, hA'⟩ := push hN hn hA hO hM
    obtain ⟨m', rfl⟩ : ∃ m', m = m' + 1 := ⟨m - 1, by omega⟩
    have hq := p4_pos m'
    rw [Nat.pow_succ] at hv hp
    have e1 : (4 ^ (m' + 1) + v) / 4 = 4 ^ m' + v / 4 := by rw [Nat.pow_succ]; omega
    have e2 : (4 ^ (m' + 1) + v) % 4 = v % 4 := by rw [Nat.pow_succ]; omega
    have e3 : 4 ^ (m' + 1) ≤ 4096 := p4_le hm6
    rw [if_neg (show ¬ nI (4 ^ (m' + 1) + v) = (1:Int32) by rw [L1, eq_n (by omega) (by omega), Nat.pow_succ]; omega), if_neg (show ¬ nI (4096 * (m' + 1) + v) = (0:Int32) by rw [L0, eq_n (by omega) (by omega)]; omega), sN hN hO hX.2, Option.bind_some, p1, p2, Option.bind_some, Option.bind_some]
    unfold f_X4_lastWord f_X4_withoutLast
    rw [and3 (by omega), Option.bind_some, shr2 (by omega), Option.bind_some, e1, e2, L4096, L4, rem_n (a := 4096 * (m' + 1) + v) (d := 4) (by omega) (by omega) (by omega), rem_n (a := 4096 * (m' + 1) + v) (d := 4096) (by omega) (by omega) (by omega), div_n (a := 4096 * (m' + 1) + v) (d := 4096) (by omega) (by omega) (by omega), mul_n, sub_n (by omega), div_n (by omega) (by omega) (by omega), add_n, show (4096 * (m' + 1) + v) % 4 = v % 4 by omega, show (4096 * (m' + 1) + v) / 4096 * 4096 - 4096 + (4096 * (m' + 1) + v) % 4096 / 4 = 4096 * m' + v / 4 by omega]
    exact ⟨_, _, rfl, rfl, rfl, tn, n, m', v / 4, la', nx', D, I, F, T, C, t, hT, hC, ⟨by omega, by omega, hO.2.2⟩, NowX_0 hX, NowM_0 hM, hTo, hA', hKp, hs⟩
set_option maxHeartbeats 4000000 in
theorem sim_reform (N : Nat) (hN : 200000 ≤ N) (vx_spoken : Int32) (vx_nowSeed : Int64) (vx_text_size : Int32) (vx_text_letters : Nat → Int32) (vx_bench_size : Int32) (vx_bench_drops : Nat → Int32) (vx_bench_from : Nat → Int32) (vx_bench_to : Nat → Int32) (vx_bench_tires : Nat → Int32) (vx_bench_copies : Nat → Int32) (vx_acts_size : Int32) (vx_acts_before : Nat → Int64) (vx_told : Nat → Int32) (vx_kept : Nat → Int64) (vm_clerks : Int32) (vm_length : Int32) (vm_acts : Int32) (vm_next : Int32) (vm_seed : Int64) (vm_drops : Nat → Int32) (vm_tires : Nat → Int32) (vm_now : Nat → Int32) (vm_told : Nat → Int32) (vm_text : Nat → Int32) (vm_row : Nat → Int32) (vm_isKept : Nat → Int32) (vm_kept : Nat → Int32) (hI : Inv vx_spoken vx_nowSeed vx_text_size vx_text_letters vx_bench_size vx_bench_drops vx_bench_from vx_bench_to vx_bench_tires vx_bench_copies vx_acts_size vx_acts_before vx_told vx_kept vm_clerks vm_length vm_acts vm_next vm_seed vm_drops vm_tires vm_now vm_told vm_text vm_row vm_isKept vm_kept) (a1 : Int32) : ∃ (R : Int32 × (Nat → Int32) × (Nat → Int32) × Int32 × (Nat → Int64)) (S : Int32 × Int32 × Int32 × (Nat → Int32) × (Nat → Int32)), f_X5_reform N a1 vx_spoken vx_bench_size vx_bench_from vx_bench_to vx_bench_copies vx_acts_size vx_acts_before = some R ∧ f_X6_reform N a1 vm_clerks vm_acts vm_next vm_now vm_row = some S ∧ R.1 = S.1 ∧ Inv vx_spoken vx_nowSeed vx_text_size vx_text_letters vx_bench_size vx_bench_drops R.2.1 R.2.2.1 vx_bench_tires vx_bench_copies R.2.2.2.1 R.2.2.2.2 vx_told vx_kept vm_clerks vm_length S.2.1 S.2.2.1 vm_seed vm_drops vm_tires S.2.2.2.1 vm_told vm_text S.2.2.2.2 vm_isKept vm_kept := by
  obtain ⟨tn, n, m, v, la, nx, D, I, F, T, C, t, hT, hC, hO, hX, hM, hTo, hA, hKp, hs⟩ := id hI
  obtain rfl := hC.2.1
  obtain rfl := hC.2.2.1
  obtain rfl := hX.1
  obtain ⟨hB, hHX, hHM⟩ := hab_of hC hO hX hM
  have hn := hC.1
  have hm6 := hO.1
  have hv := hO.2.1
  unfold f_X5_reform f_X6_reform
  rcases chkC N n hC.1 a1 with ⟨h1, h2⟩ | ⟨c, hc, rfl, h1, h2⟩
  · rw [h1, h2, Option.bind_some, Option.bind_some, if_pos z00, if_pos z00]
    exact ⟨_, _, rfl, rfl, rfl, hI⟩
  · obtain ⟨b1, b2, b3, b4, b5, b6⟩ := hB.2 c hc
    obtain ⟨e1, e2, e3, e4, e5⟩ := hHX c hc
    obtain ⟨m1, m2, m3, m4, m5⟩ := hHM c hc
    rw [h1, h2, Option.bind_some, Option.bind_some, if_neg n10, if_neg n10, A1, A5]
    simp only [gI_n (show c < 4 by omega) (show (4:Nat) < 2147483648 by decide), gI_n (show 1 + c < 13 by omega) (show (13:Nat) < 2147483648 by decide), gI_n (show 5 + c < 13 by omega) (show (13:Nat) < 2147483648 by decide), cl_n (show c < 2147483648 by omega), cl_n (show 1 + c < 2147483648 by omega), cl_n (show 5 + c < 2147483648 by omega)]
    rw [e2, m3]
    by_cases z : F c = 0
    · rw [if_pos (show nI (F c) = (0:Int32) by rw [z]; rfl), if_pos (show mN (F c) = (-9:Int32) by rw [z]; rfl)]
      exact ⟨_, _, rfl, rfl, rfl, hI⟩
    · obtain ⟨as', ab', ma', mx', row', la', nx', p1, p2, hA'⟩ := push hN hn hA hO hM
      rw [if_neg (nI_ne0 (by omega) (by omega)), if_neg (show ¬ mN (F c) = (-9:Int32) by rw [mN_9 (by omega)]; exact z), sN hN hO hX.2, Option.bind_some, p1, p2, Option.bind_some, Option.bind_some, l1N b2, Option.bind_some]
      have nx1 : NowX m v (fun j => if j = c then 0 else F j) (fun j => if j = c then 0 else T j) (fun j => if j = c then C c else C j) (nI (4 ^ m + v)) (upd vx_bench_from c 0) (upd vx_bench_to c 0) vx_bench_copies := by
        refine ⟨rfl, fun j hj => ?_⟩
        by_cases q : j = c
        · subst q; simp only [up_s, if_true]; exact ⟨rfl, rfl, e5⟩
        · simp only [up_n q, if_neg q]; exact hX.2 j hj
      have nm1 : NowM n m v (fun j => if j = c then 0 else F j) (fun j => if j = c then 0 else T j) (fun j => if j = c then C c else C j) (upd (upd vm_now (1 + c) (-9)) (5 + c) (-9)) := by
        refine ⟨?_, fun j hj => ?_⟩
        · rw [up_n (by omega), up_n (by omega)]; exact hM.1
        · by_cases q : j = c
          · subst q
            simp only [if_true]
            exact ⟨by rw [up_n (by omega), up_s]; rfl, by rw [up_s]; rfl, by rw [up_n (by omega), up_n (by omega)]; exact m5⟩
          · simp only [if_neg q]
            rw [up_n (by omega), up_n (by omega), up_n (by omega), up_n (by omega), up_n (by omega), up_n (by omega)]
            exact hM.2 j hj
      exact ⟨_, _, rfl, rfl, rfl, tn, n, m, v, la', nx', D, I, _, _, _, t, hT, hC, NowOk_upd hO (by omega) (by omega) (by omega) (fun q => absurd rfl q) b5, nx1, nm1, hTo, hA', hKp, hs⟩
set_option maxHeartbeats 4000000 in
theorem sim_seat (N : Nat) (hN : 200000 ≤ N) (vx_spoken : Int32) (vx_nowSeed : Int64) (vx_text_size : Int32) (vx_text_letters : Nat → Int32) (vx_bench_size : Int32) (vx_bench_drops : Nat → Int32) (vx_bench_from : Nat → Int32) (vx_bench_to : Nat → Int32) (vx_bench_tires : Nat → Int32) (vx_bench_copies : Nat → Int32) (vx_acts_size : Int32) (vx_acts_before : Nat → Int64) (vx_told : Nat → Int32) (vx_kept : Nat → Int64) (vm_clerks : Int32) (vm_length : Int32) (vm_acts : Int32) (vm_next : Int32) (vm_seed : Int64) (vm_drops : Nat → Int32) (vm_tires : Nat → Int32) (vm_now : Nat → Int32) (vm_told : Nat → Int32) (vm_text : Nat → Int32) (vm_row : Nat → Int32) (vm_isKept : Nat → Int32) (vm_kept : Nat → Int32) (hI : Inv vx_spoken vx_nowSeed vx_text_size vx_text_letters vx_bench_size vx_bench_drops vx_bench_from vx_bench_to vx_bench_tires vx_bench_copies vx_acts_size vx_acts_before vx_told vx_kept vm_clerks vm_length vm_acts vm_next vm_seed vm_drops vm_tires vm_now vm_told vm_text vm_row vm_isKept vm_kept) (a1 : Int32) (a2 : Int32) : ∃ (R : Int32 × (Nat → Int32) × Int32 × (Nat → Int64)) (S : Int32 × Int32 × Int32 × (Nat → Int32) × (Nat → Int32)), f_X5_seat N a1 a2 vx_spoken vx_bench_size vx_bench_from vx_bench_to vx_bench_copies vx_acts_size vx_acts_before = some R ∧ f_X6_seat N a1 a2 vm_clerks vm_acts vm_next vm_now vm_row = some S ∧ R.1 = S.1 ∧ Inv vx_spoken vx_nowSeed vx_text_size vx_text_letters vx_bench_size vx_bench_drops vx_bench_from vx_bench_to vx_bench_tires R.2.1 R.2.2.1 R.2.2.2 vx_told vx_kept vm_clerks vm_length S.2.1 S.2.2.1 vm_seed vm_drops vm_tires S.2.2.2.1 vm_told vm_text S.2.2.2.2 vm_isKept vm_kept := by
  obtain ⟨tn, n, m, v, la, nx, D, I, F, T, C, t, hT, hC, hO, hX, hM, hTo, hA, hKp, hs⟩ := id hI
  obtain rfl := hC.2.1
  obtain rfl := hC.2.2.1
  obtain rfl := hX.1
  obtain ⟨hB, hHX, hHM⟩ := hab_of hC hO hX hM
  have hn := hC.1
  have hm6 := hO.1
  have hv := hO.2.1
  rcases chkC N n hC.1 a1 with ⟨h1, h2⟩ | ⟨c, hc, rfl, h1, h2⟩
  · unfold f_X5_seat f_X6_seat
    rw [h1, h2, Option.bind_some, Option.bind_some, if_pos z00, if_pos z00]
    exact ⟨_, _, rfl, rfl, rfl, hI⟩
  · obtain ⟨b1, b2, b3, b4, b5, b6⟩ := hB.2 c hc
    obtain ⟨e1, e2, e3, e4, e5⟩ := hHX c hc
    obtain ⟨m1, m2, m3, m4, m5⟩ := hHM c hc
    obtain ⟨as', ab', ma', mx', row', la', nx', p1, p2, hA'⟩ := push hN hn hA hO hM
    have hc4 : C c ≤ 4 := by omega
    have nx1 : ∀ x, NowX m v (fun j => if j = c then F c else F j) (fun j => if j = c then T c else T j) (fun j => if j = c then x else C j) (nI (4 ^ m + v)) vx_bench_from vx_bench_to (upd vx_bench_copies c (nI x)) := by
      intro x
      refine ⟨rfl, fun j hj => ?_⟩
      by_cases q : j = c
      · subst q; simp only [up_s, if_true]; exact ⟨e2, e3, trivial⟩
      · simp only [up_n q, if_neg q]; exact hX.2 j hj
    have nm1 : ∀ x, NowM n m v (fun j => if j = c then F c else F j) (fun j => if j = c then T c else T j) (fun j => if j = c then x else C j) (upd vm_now (9 + c) (mN x)) := by
      intro x
      refine ⟨?_, fun j hj => ?_⟩
      · rw [up_n (by omega)]; exact hM.1
      · by_cases q : j = c
        · subst q
          simp only [if_true]
          exact ⟨by rw [up_n (by omega)]; exact m3, by rw [up_n (by omega)]; exact m4, by rw [up_s]⟩
        · simp only [if_neg q]
          rw [up_n (by omega), up_n (by omega), up_n (by omega)]
          exact hM.2 j hj
    have fin : ∀ x, x ≤ c → NowOk n m v (fun j => if j = c then F c else F j) (fun j => if j = c then T c else T j) (fun j => if j = c then x else C j) := fun x hx => NowOk_upd hO b2 b3 (by omega) b6 hx
    by_cases z : a2 = -9
    · subst z
      unfold f_X5_seat f_X6_seat
      rw [h1, h2, Option.bind_some, Option.bind_some, if_neg n10, if_neg n10, if_pos (show (-9:Int32) = -9 from rfl), if_pos (show (-9:Int32) = -9 from rfl), A9]
      simp only [gI_n (show c < 4 by omega) (show (4:Nat) < 2147483648 by decide), gI_n (show 9 + c < 13 by omega) (show (13:Nat) < 2147483648 by decide), cl_n (show c < 2147483648 by omega), cl_n (show 9 + c < 2147483648 by omega)]
      rw [e5, l1N hc4, Option.bind_some, m5]
      by_cases y : C c = 0
      · rw [if_pos (show mN (C c) = (-9:Int32) by rw [y]; rfl), if_pos (show mN (C c) = (-9:Int32) by rw [y]; rfl)]
        exact ⟨_, _, rfl, rfl, rfl, hI⟩
      · rw [if_neg (show ¬ mN (C c) = (-9:Int32) by rw [mN_9 (by omega)]; exact y), if_neg (show ¬ mN (C c) = (-9:Int32) by rw [mN_9 (by omega)]; exact y), sN hN hO hX.2, Option.bind_some, p1, p2, Option.bind_some, Option.bind_some, Option.bind_some]
        exact ⟨_, _, rfl, rfl, rfl, tn, n, m, v, la', nx', D, I, _, _, _, t, hT, hC, fin 0 (by omega), nx1 0, nm1 0, hTo, hA', hKp, hs⟩
    · rcases chkI N a2 0 (nI c - (1:Int32)).toInt64 c (by decide) (pred_toInt (by omega)) (by omega) with ⟨hi, h3⟩ | ⟨o, ho, rfl, hi⟩
      · have e6 : (if a2 < (0:Int32) then (some ((-2:Int32), (vx_bench_copies, vx_acts_size, vx_acts_before)) : Option (Int32 × (Nat → Int32) × Int32 × (Nat → Int64))) else if a2 < nI c then none else some ((-2:Int32), (vx_bench_copies, vx_acts_size, vx_acts_before))) = some ((-2:Int32), (vx_bench_copies, vx_acts_size, vx_acts_before)) := by
          rcases h3 with ⟨q, -⟩ | ⟨q, r, r2⟩
          · rw [if_pos q]
          · rw [if_neg q, if_neg (by rw [Int32.lt_iff_toInt_lt, nI_toInt (by omega)]; omega)]
        have g5 : f_X5_seat N (nI c) a2 (nI (4 ^ m + v)) (nI n) vx_bench_from vx_bench_to vx_bench_copies vx_acts_size vx_acts_before = some ((-2:Int32), (vx_bench_copies, vx_acts_size, vx_acts_before)) := by
          unfold f_X5_seat
          rw [h1, Option.bind_some, if_neg n10, if_neg z]
          rcases h3 with ⟨q, -⟩ | ⟨q, r, r2⟩
          · rw [if_pos q]
          · rw [if_neg q, if_neg (by rw [Int32.lt_iff_toInt_lt, nI_toInt (by omega)]; omega)]
        have g6 : f_X6_seat N (nI c) a2 (nI n) vm_acts vm_next vm_now vm_row = some ((-2:Int32), (vm_acts, vm_next, vm_now, vm_row)) := by
          unfold f_X6_seat
          rw [h2, Option.bind_some, if_neg n10, if_neg z, hi, Option.bind_some, if_pos z00]
        exact ⟨_, _, g5, g6, rfl, hI⟩
      · unfold f_X5_seat f_X6_seat
        rw [h1, h2, Option.bind_some, Option.bind_some, if_neg n10, if_neg n10, if_neg z, if_neg z, hi, Option.bind_some, if_neg n10, if_neg (nI_pos (by omega)), if_pos (show nI o < nI c by rw [lt_n (by omega) (by omega)]; exact ho), A9]
        simp only [gI_n (show c < 4 by omega) (show (4:Nat) < 2147483648 by decide), gI_n (show 9 + c < 13 by omega) (show (13:Nat) < 2147483648 by decide), cl_n (show c < 2147483648 by omega), cl_n (show 9 + c < 2147483648 by omega)]
        rw [e5, l1N hc4, Option.bind_some, m5]
        have ey : (mN (C c) = nI o) = (o + 1 = C c) := by
          rw [← mN_eq (by omega) hc4]
          exact propext ⟨Eq.symm, Eq.symm⟩
        by_cases y : o + 1 = C c
        · rw [if_pos (by rw [ey]; exact y), if_pos (by rw [ey]; exact y)]
          exact ⟨_, _, rfl, rfl, rfl, hI⟩
        · rw [if_neg (by rw [ey]; exact y), if_neg (by rw [ey]; exact y), sN hN hO hX.2, Option.bind_some, p1, p2, Option.bind_some, Option.bind_some, Option.bind_some, A1r]
          have nm2 := nm1 (o + 1)
          rw [mN_s (by omega), show o + 1 - 1 = o by omega] at nm2
          exact ⟨_, _, rfl, rfl, rfl, tn, n, m, v, la', nx', D, I, _, _, _, t, hT, hC, fin (o + 1) (by omega), nx1 (o + 1), nm2, hTo, hA', hKp, hs⟩
set_option maxHeartbeats 4000000 in
theorem sim_undo (N : Nat) (hN : 200000 ≤ N) (vx_spoken : Int32) (vx_nowSeed : Int64) (vx_text_size : Int32) (vx_text_letters : Nat → Int32) (vx_bench_size : Int32) (vx_bench_drops : Nat → Int32) (vx_bench_from : Nat → Int32) (vx_bench_to : Nat → Int32) (vx_bench_tires : Nat → Int32) (vx_bench_copies : Nat → Int32) (vx_acts_size : Int32) (vx_acts_before : Nat → Int64) (vx_told : Nat → Int32) (vx_kept : Nat → Int64) (vm_clerks : Int32) (vm_length : Int32) (vm_acts : Int32) (vm_next : Int32) (vm_seed : Int64) (vm_drops : Nat → Int32) (vm_tires : Nat → Int32) (vm_now : Nat → Int32) (vm_told : Nat → Int32) (vm_text : Nat → Int32) (vm_row : Nat → Int32) (vm_isKept : Nat → Int32) (vm_kept : Nat → Int32) (hI : Inv vx_spoken vx_nowSeed vx_text_size vx_text_letters vx_bench_size vx_bench_drops vx_bench_from vx_bench_to vx_bench_tires vx_bench_copies vx_acts_size vx_acts_before vx_told vx_kept vm_clerks vm_length vm_acts vm_next vm_seed vm_drops vm_tires vm_now vm_told vm_text vm_row vm_isKept vm_kept) : ∃ (R : Int32 × Int32 × (Nat → Int32) × (Nat → Int32) × (Nat → Int32) × Int32) (S : Int32 × Int32 × Int32 × (Nat → Int32)), f_X5_undo N  vx_spoken vx_bench_from vx_bench_to vx_bench_copies vx_acts_size vx_acts_before = some R ∧ f_X6_undo N  vm_acts vm_next vm_now vm_row = some S ∧ R.1 = S.1 ∧ Inv R.2.1 vx_nowSeed vx_text_size vx_text_letters vx_bench_size vx_bench_drops R.2.2.1 R.2.2.2.1 vx_bench_tires R.2.2.2.2.1 R.2.2.2.2.2 vx_acts_before vx_told vx_kept vm_clerks vm_length S.2.1 S.2.2.1 vm_seed vm_drops vm_tires S.2.2.2 vm_told vm_text vm_row vm_isKept vm_kept := by
  obtain ⟨tn, n, m, v, la, nx, D, I, F, T, C, t, hT, hC, hO, hX, hM, hTo, hA, hKp, hs⟩ := id hI
  obtain rfl := hC.2.1
  obtain rfl := hC.2.2.1
  obtain rfl := hX.1
  obtain ⟨hB, hHX, hHM⟩ := hab_of hC hO hX hM
  have hn := hC.1
  have hm6 := hO.1
  have hv := hO.2.1
  obtain ⟨hla, hnx, rfl, rfl, rfl, hold⟩ := id hA
  unfold f_X5_undo f_X6_undo
  by_cases z : la = 0
  · subst z
    rw [if_pos (show nI 0 = (0:Int32) from rfl), if_pos (show nI 0 = (0:Int32) from rfl)]
    exact ⟨_, _, rfl, rfl, rfl, hI⟩
  · obtain ⟨m', v', F', T', C', o1, o2, o3⟩ := hold (la - 1) (by omega)
    have es : (nx + 16 - la + (la - 1)) % 16 = (nx + 15) % 16 := by omega
    rw [es] at o3
    obtain ⟨P, Q, R, g1, g2⟩ := gB (N := N) (nI (4 ^ m + v)) vx_bench_from vx_bench_to vx_bench_copies hN o1
    obtain ⟨P', u1, u2⟩ := un_loop (N := N) (s := (nx + 15) % 16) (row := vm_row) (nI nx) (by rw [L15, add_n, L16, rem_n (by omega) (by omega) (by omega)]) (by omega) (fun z1_36 zvt_now_36 => some ((nI la - (1:Int32)), ((nI la - (1:Int32)), ((nI nx + (15:Int32)) - (nI nx + (15:Int32)) / (16:Int32) * (16:Int32)), zvt_now_36))) 13 N 0 vm_now (by omega) (by omega) (fun k hk => by omega)
    rw [if_neg (nI_ne0 (by omega) (by omega)), if_neg (nI_ne0 (by omega) (by omega))]
    unfold f_X0_takeLast
    rw [if_neg (show ¬ nI la ≤ (0:Int32) by rw [L0, le_n (by omega) (by omega)]; omega), L1, sub_n (by omega), gI_n (by omega) (by omega), cl_n (by omega), Option.bind_some]
    simp only
    rw [o2, g1, Option.bind_some, show (0:Int32) = nI 0 from rfl]
    rw [L1, sub_n (by omega)] at u1
    rw [u1]
    have nm1 : NowM n m' v' F' T' C' P' := by
      refine ⟨by rw [u2 0 (by omega)]; exact o3.1, fun c hc => ?_⟩
      rw [u2 _ (by omega), u2 _ (by omega), u2 _ (by omega)]
      exact o3.2 c hc
    refine ⟨_, _, rfl, rfl, rfl, tn, n, m', v', la - 1, (nx + 15) % 16, D, I, F', T', C', t, hT, hC, o1, g2, nm1, hTo, ⟨by omega, by omega, rfl, rfl, by rw [L15, add_n, L16, rem_n (by omega) (by omega) (by omega)], fun i hi => ?_⟩, hKp, hs⟩
    have := hold i (by omega)
    rw [show ((nx + 15) % 16 + 16 - (la - 1) + i) % 16 = (nx + 16 - la + i) % 16 by omega]
    exact this
set_option maxHeartbeats 4000000 in
theorem sim_open (N : Nat) (hN : 200000 ≤ N) (vx_spoken : Int32) (vx_nowSeed : Int64) (vx_text_size : Int32) (vx_text_letters : Nat → Int32) (vx_bench_size : Int32) (vx_bench_drops : Nat → Int32) (vx_bench_from : Nat → Int32) (vx_bench_to : Nat → Int32) (vx_bench_tires : Nat → Int32) (vx_bench_copies : Nat → Int32) (vx_acts_size : Int32) (vx_acts_before : Nat → Int64) (vx_told : Nat → Int32) (vx_kept : Nat → Int64) (vm_clerks : Int32) (vm_length : Int32) (vm_acts : Int32) (vm_next : Int32) (vm_seed : Int64) (vm_drops : Nat → Int32) (vm_tires : Nat → Int32) (vm_now : Nat → Int32) (vm_told : Nat → Int32) (vm_text : Nat → Int32) (vm_row : Nat → Int32) (vm_isKept : Nat → Int32) (vm_kept : Nat → Int32) (hI : Inv vx_spoken vx_nowSeed vx_text_size vx_text_letters vx_bench_size vx_bench_drops vx_bench_from vx_bench_to vx_bench_tires vx_bench_copies vx_acts_size vx_acts_before vx_told vx_kept vm_clerks vm_length vm_acts vm_next vm_seed vm_drops vm_tires vm_now vm_told vm_text vm_row vm_isKept vm_kept) (a1 : Int32) : ∃ (R : Int32 × (Nat → Int32)) (S : Int32 × (Nat → Int32)), f_X5_open N a1 vx_bench_size vx_told = some R ∧ f_X6_open N a1 vm_clerks vm_told = some S ∧ R.1 = S.1 ∧ Inv vx_spoken vx_nowSeed vx_text_size vx_text_letters vx_bench_size vx_bench_drops vx_bench_from vx_bench_to vx_bench_tires vx_bench_copies vx_acts_size vx_acts_before R.2 vx_kept vm_clerks vm_length vm_acts vm_next vm_seed vm_drops vm_tires vm_now S.2 vm_text vm_row vm_isKept vm_kept := by
  obtain ⟨tn, n, m, v, la, nx, D, I, F, T, C, t, hT, hC, hO, hX, hM, hTo, hA, hKp, hs⟩ := id hI
  obtain rfl := hC.2.1
  obtain rfl := hC.2.2.1
  obtain rfl := hX.1
  obtain ⟨hB, hHX, hHM⟩ := hab_of hC hO hX hM
  have hn := hC.1
  have hm6 := hO.1
  have hv := hO.2.1
  unfold f_X5_open f_X6_open
  rcases chkC N n hC.1 a1 with ⟨h1, h2⟩ | ⟨c, hc, rfl, h1, h2⟩
  · rw [h1, h2, Option.bind_some, Option.bind_some, if_pos z00, if_pos z00]
    exact ⟨_, _, rfl, rfl, rfl, hI⟩
  · rw [h1, h2, Option.bind_some, Option.bind_some, if_neg n10, if_neg n10, cl_n (by omega)]
    have fin := ToldR_set (c := c) hTo (1:Int32) 0 (some (0, 0)) (Or.inr ⟨0, 0, rfl, by decide, by decide, rfl, rfl⟩)
    rcases toldCase N hN hTo hn hc with ⟨-, -, -, q1, q2⟩ | ⟨a, b, -, -, -, -, -, -, -, q1, q2⟩
    · rw [q1, q2, Option.bind_some, Option.bind_some, gI_n (by omega) (by omega), gI_n (by omega) (by omega)]
      exact ⟨_, _, rfl, rfl, rfl, tn, n, m, v, la, nx, D, I, F, T, C, _, hT, hC, hO, hX, hM, fin, hA, hKp, hs⟩
    · rw [q1, q2, Option.bind_some, Option.bind_some, gI_n (by omega) (by omega), gI_n (by omega) (by omega)]
      exact ⟨_, _, rfl, rfl, rfl, tn, n, m, v, la, nx, D, I, F, T, C, _, hT, hC, hO, hX, hM, fin, hA, hKp, hs⟩
set_option maxHeartbeats 4000000 in
theorem sim_tell (N : Nat) (hN : 200000 ≤ N) (vx_spoken : Int32) (vx_nowSeed : Int64) (vx_text_size : Int32) (vx_text_letters : Nat → Int32) (vx_bench_size : Int32) (vx_bench_drops : Nat → Int32) (vx_bench_from : Nat → Int32) (vx_bench_to : Nat → Int32) (vx_bench_tires : Nat → Int32) (vx_bench_copies : Nat → Int32) (vx_acts_size : Int32) (vx_acts_before : Nat → Int64) (vx_told : Nat → Int32) (vx_kept : Nat → Int64) (vm_clerks : Int32) (vm_length : Int32) (vm_acts : Int32) (vm_next : Int32) (vm_seed : Int64) (vm_drops : Nat → Int32) (vm_tires : Nat → Int32) (vm_now : Nat → Int32) (vm_told : Nat → Int32) (vm_text : Nat → Int32) (vm_row : Nat → Int32) (vm_isKept : Nat → Int32) (vm_kept : Nat → Int32) (hI : Inv vx_spoken vx_nowSeed vx_text_size vx_text_letters vx_bench_size vx_bench_drops vx_bench_from vx_bench_to vx_bench_tires vx_bench_copies vx_acts_size vx_acts_before vx_told vx_kept vm_clerks vm_length vm_acts vm_next vm_seed vm_drops vm_tires vm_now vm_told vm_text vm_row vm_isKept vm_kept) (a1 : Int32) (a2 : Int32) : ∃ (R : Int32 × (Nat → Int32)) (S : Int32 × (Nat → Int32)), f_X5_tell N a1 a2 vx_bench_size vx_told = some R ∧ f_X6_tell N a1 a2 vm_clerks vm_told = some S ∧ R.1 = S.1 ∧ Inv vx_spoken vx_nowSeed vx_text_size vx_text_letters vx_bench_size vx_bench_drops vx_bench_from vx_bench_to vx_bench_tires vx_bench_copies vx_acts_size vx_acts_before R.2 vx_kept vm_clerks vm_length vm_acts vm_next vm_seed vm_drops vm_tires vm_now S.2 vm_text vm_row vm_isKept vm_kept := by
  obtain ⟨tn, n, m, v, la, nx, D, I, F, T, C, t, hT, hC, hO, hX, hM, hTo, hA, hKp, hs⟩ := id hI
  obtain rfl := hC.2.1
  obtain rfl := hC.2.2.1
  obtain rfl := hX.1
  obtain ⟨hB, hHX, hHM⟩ := hab_of hC hO hX hM
  have hn := hC.1
  have hm6 := hO.1
  have hv := hO.2.1
  unfold f_X5_tell f_X6_tell
  rcases chkC N n hC.1 a1 with ⟨h1, h2⟩ | ⟨c, hc, rfl, h1, h2⟩
  · rw [h1, h2, Option.bind_some, Option.bind_some, if_pos z00, if_pos z00]
    exact ⟨_, _, rfl, rfl, rfl, hI⟩
  · rw [h1, h2, Option.bind_some, Option.bind_some, if_neg n10, if_neg n10]
    simp only [gI_n (show c < 4 by omega) (show (4:Nat) < 2147483648 by decide), cl_n (show c < 2147483648 by omega), up_s]
    rcases chkW N a2 with ⟨g1, g2⟩ | ⟨w, hw, rfl, g1, g2⟩
    · rw [g1, g2, Option.bind_some, Option.bind_some, if_pos z00, if_pos z00]
      exact ⟨_, _, rfl, rfl, rfl, hI⟩
    · rw [g1, g2, Option.bind_some, Option.bind_some, if_neg n10, if_neg n10]
      rcases toldCase N hN hTo hn hc with ⟨-, z1, z2, -, -⟩ | ⟨a, b, -, ha, hb, e1, e2, z1, z2, -, -⟩
      · rw [if_pos z1, if_pos z2]
        exact ⟨_, _, rfl, rfl, rfl, hI⟩
      · rw [if_neg z1, if_neg z2, e1, e2, wI hN ha hb, wO ha hb, Option.bind_some, Option.bind_some]
        by_cases h6 : a = 6
        · subst h6
          rw [if_neg (show ¬ nI 6 < (6:Int32) by decide), if_pos (show nI 6 = (6:Int32) from rfl)]
          exact ⟨_, _, rfl, rfl, rfl, hI⟩
        · have hb2 : 4 * b + w < 4 ^ (a + 1) := by rw [Nat.pow_succ]; omega
          rw [if_pos (show nI a < (6:Int32) by rw [L6, lt_n (by omega) (by omega)]; omega), if_neg (show ¬ nI a = (6:Int32) by rw [L6, eq_n (by omega) (by omega)]; exact h6), wW (by omega) hb hw, mW (by omega) hb hw, Option.bind_some, Option.bind_some, wI hN (by omega) hb2, wO (by omega) hb2, Option.bind_some, Option.bind_some]
          have fin := ToldR_set (c := c) hTo (nI (4 ^ (a + 1) + (4 * b + w))) (nI (4096 * (a + 1) + (4 * b + w))) (some (a + 1, 4 * b + w)) (Or.inr ⟨_, _, rfl, by omega, hb2, rfl, rfl⟩)
          exact ⟨_, _, rfl, rfl, rfl, tn, n, m, v, la, nx, D, I, F, T, C, _, hT, hC, hO, hX, hM, fin, hA, hKp, hs⟩
set_option maxHeartbeats 4000000 in
theorem sim_untell (N : Nat) (hN : 200000 ≤ N) (vx_spoken : Int32) (vx_nowSeed : Int64) (vx_text_size : Int32) (vx_text_letters : Nat → Int32) (vx_bench_size : Int32) (vx_bench_drops : Nat → Int32) (vx_bench_from : Nat → Int32) (vx_bench_to : Nat → Int32) (vx_bench_tires : Nat → Int32) (vx_bench_copies : Nat → Int32) (vx_acts_size : Int32) (vx_acts_before : Nat → Int64) (vx_told : Nat → Int32) (vx_kept : Nat → Int64) (vm_clerks : Int32) (vm_length : Int32) (vm_acts : Int32) (vm_next : Int32) (vm_seed : Int64) (vm_drops : Nat → Int32) (vm_tires : Nat → Int32) (vm_now : Nat → Int32) (vm_told : Nat → Int32) (vm_text : Nat → Int32) (vm_row : Nat → Int32) (vm_isKept : Nat → Int32) (vm_kept : Nat → Int32) (hI : Inv vx_spoken vx_nowSeed vx_text_size vx_text_letters vx_bench_size vx_bench_drops vx_bench_from vx_bench_to vx_bench_tires vx_bench_copies vx_acts_size vx_acts_before vx_told vx_kept vm_clerks vm_length vm_acts vm_next vm_seed vm_drops vm_tires vm_now vm_told vm_text vm_row vm_isKept vm_kept) (a1 : Int32) : ∃ (R : Int32 × (Nat → Int32)) (S : Int32 × (Nat → Int32)), f_X5_untell N a1 vx_bench_size vx_told = some R ∧ f_X6_untell N a1 vm_clerks vm_told = some S ∧ R.1 = S.1 ∧ Inv vx_spoken vx_nowSeed vx_text_size vx_text_letters vx_bench_size vx_bench_drops vx_bench_from vx_bench_to vx_bench_tires vx_bench_copies vx_acts_size vx_acts_before R.2 vx_kept vm_clerks vm_length vm_acts vm_next vm_seed vm_drops vm_tires vm_now S.2 vm_text vm_row vm_isKept vm_kept := by
  obtain ⟨tn, n, m, v, la, nx, D, I, F, T, C, t, hT, hC, hO, hX, hM, hTo, hA, hKp, hs⟩ := id hI
  obtain rfl := hC.2.1
  obtain rfl := hC.2.2.1
  obtain rfl := hX.1
  obtain ⟨hB, hHX, hHM⟩ := hab_of hC hO hX hM
  have hn := hC.1
  have hm6 := hO.1
  have hv := hO.2.1
  unfold f_X5_untell f_X6_untell
  rcases chkC N n hC.1 a1 with ⟨h1, h2⟩ | ⟨c, hc, rfl, h1, h2⟩
  · rw [h1, h2, Option.bind_some, Option.bind_some, if_pos z00, if_pos z00]
    exact ⟨_, _, rfl, rfl, rfl, hI⟩
  · rw [h1, h2, Option.bind_some, Option.bind_some, if_neg n10, if_neg n10, cl_n (by omega)]
    have fin := ToldR_set (c := c) hTo (0:Int32) (-9) none (Or.inl ⟨rfl, rfl, rfl⟩)
    rcases toldCase N hN hTo hn hc with ⟨-, -, -, q1, q2⟩ | ⟨a, b, -, -, -, -, -, -, -, q1, q2⟩
    · rw [q1, q2, Option.bind_some, Option.bind_some, gI_n (by omega) (by omega), gI_n (by omega) (by omega)]
      exact ⟨_, _, rfl, rfl, rfl, tn, n, m, v, la, nx, D, I, F, T, C, _, hT, hC, hO, hX, hM, fin, hA, hKp, hs⟩
    · rw [q1, q2, Option.bind_some, Option.bind_some, gI_n (by omega) (by omega), gI_n (by omega) (by omega)]
      exact ⟨_, _, rfl, rfl, rfl, tn, n, m, v, la, nx, D, I, F, T, C, _, hT, hC, hO, hX, hM, fin, hA, hKp, hs⟩
set_option maxHeartbeats 4000000 in
theorem sim_fits (N : Nat) (hN : 200000 ≤ N) (vx_spoken : Int32) (vx_nowSeed : Int64) (vx_text_size : Int32) (vx_text_letters : Nat → Int32) (vx_bench_size : Int32) (vx_bench_drops : Nat → Int32) (vx_bench_from : Nat → Int32) (vx_bench_to : Nat → Int32) (vx_bench_tires : Nat → Int32) (vx_bench_copies : Nat → Int32) (vx_bench_pages : Nat → Int32) (vx_acts_size : Int32) (vx_acts_before : Nat → Int64) (vx_told : Nat → Int32) (vx_kept : Nat → Int64) (vm_clerks : Int32) (vm_length : Int32) (vm_acts : Int32) (vm_next : Int32) (vm_seed : Int64) (vm_drops : Nat → Int32) (vm_tires : Nat → Int32) (vm_now : Nat → Int32) (vm_told : Nat → Int32) (vm_text : Nat → Int32) (vm_pages : Nat → Int32) (vm_row : Nat → Int32) (vm_isKept : Nat → Int32) (vm_kept : Nat → Int32) (hI : Inv vx_spoken vx_nowSeed vx_text_size vx_text_letters vx_bench_size vx_bench_drops vx_bench_from vx_bench_to vx_bench_tires vx_bench_copies vx_acts_size vx_acts_before vx_told vx_kept vm_clerks vm_length vm_acts vm_next vm_seed vm_drops vm_tires vm_now vm_told vm_text vm_row vm_isKept vm_kept) (a1 : Int32) : ∃ (R : Int32 × (Nat → Int32)) (S : Int32 × (Nat → Int32)), f_X5_fits N a1 vx_bench_size vx_bench_drops vx_bench_from vx_bench_to vx_bench_tires vx_bench_copies vx_bench_pages vx_told = some R ∧ f_X6_fits N a1 vm_clerks vm_drops vm_tires vm_now vm_told vm_pages = some S ∧ R.1 = S.1 ∧ Inv vx_spoken vx_nowSeed vx_text_size vx_text_letters vx_bench_size vx_bench_drops vx_bench_from vx_bench_to vx_bench_tires vx_bench_copies vx_acts_size vx_acts_before vx_told vx_kept vm_clerks vm_length vm_acts vm_next vm_seed vm_drops vm_tires vm_now vm_told vm_text vm_row vm_isKept vm_kept := by
  obtain ⟨tn, n, m, v, la, nx, D, I, F, T, C, t, hT, hC, hO, hX, hM, hTo, hA, hKp, hs⟩ := id hI
  obtain rfl := hC.2.1
  obtain rfl := hC.2.2.1
  obtain rfl := hX.1
  obtain ⟨hB, hHX, hHM⟩ := hab_of hC hO hX hM
  have hn := hC.1
  have hm6 := hO.1
  have hv := hO.2.1
  have hcx : Cx n D F T I C t vx_bench_drops vx_bench_from vx_bench_to vx_bench_tires vx_bench_copies vx_told vm_drops vm_tires vm_now vm_told := ⟨hB, hHX, hHM, hTo⟩
  rcases chkL N 0 (by omega) 0 (by decide) a1 with ⟨h1, h2⟩ | ⟨l, -, hl, rfl, h1, h2⟩
  · refine ⟨(-2, vx_bench_pages), (-2, vm_pages), ?_, ?_, rfl, hI⟩
    · unfold f_X5_fits; rw [show f_X5_isLength N a1 (0:Int32) = some 0 from h1, Option.bind_some, if_pos z00]
    · unfold f_X6_fits; rw [h2, Option.bind_some, if_pos rfl]
  · obtain ⟨P1, g1⟩ := fitsX vx_bench_pages hN hcx hl h1
    obtain ⟨P2, g2⟩ := fitsM vm_pages hN hcx hl h2
    exact ⟨_, _, g1, g2, rfl, hI⟩
set_option maxHeartbeats 4000000 in
theorem sim_least (N : Nat) (hN : 200000 ≤ N) (vx_spoken : Int32) (vx_nowSeed : Int64) (vx_text_size : Int32) (vx_text_letters : Nat → Int32) (vx_bench_size : Int32) (vx_bench_drops : Nat → Int32) (vx_bench_from : Nat → Int32) (vx_bench_to : Nat → Int32) (vx_bench_tires : Nat → Int32) (vx_bench_copies : Nat → Int32) (vx_bench_pages : Nat → Int32) (vx_acts_size : Int32) (vx_acts_before : Nat → Int64) (vx_told : Nat → Int32) (vx_kept : Nat → Int64) (vm_clerks : Int32) (vm_length : Int32) (vm_acts : Int32) (vm_next : Int32) (vm_found : Int32) (vm_seed : Int64) (vm_drops : Nat → Int32) (vm_tires : Nat → Int32) (vm_now : Nat → Int32) (vm_told : Nat → Int32) (vm_text : Nat → Int32) (vm_pages : Nat → Int32) (vm_row : Nat → Int32) (vm_isKept : Nat → Int32) (vm_kept : Nat → Int32) (hI : Inv vx_spoken vx_nowSeed vx_text_size vx_text_letters vx_bench_size vx_bench_drops vx_bench_from vx_bench_to vx_bench_tires vx_bench_copies vx_acts_size vx_acts_before vx_told vx_kept vm_clerks vm_length vm_acts vm_next vm_seed vm_drops vm_tires vm_now vm_told vm_text vm_row vm_isKept vm_kept) (a1 : Int32) : ∃ (R : Int32 × (Nat → Int32)) (S : Int32 × Int32 × (Nat → Int32)), f_X5_least N a1 vx_bench_size vx_bench_drops vx_bench_from vx_bench_to vx_bench_tires vx_bench_copies vx_bench_pages vx_told = some R ∧ f_X6_least N a1 vm_clerks vm_found vm_drops vm_tires vm_now vm_told vm_pages = some S ∧ R.1 = S.1 ∧ Inv vx_spoken vx_nowSeed vx_text_size vx_text_letters vx_bench_size vx_bench_drops vx_bench_from vx_bench_to vx_bench_tires vx_bench_copies vx_acts_size vx_acts_before vx_told vx_kept vm_clerks vm_length vm_acts vm_next vm_seed vm_drops vm_tires vm_now vm_told vm_text vm_row vm_isKept vm_kept := by
  obtain ⟨tn, n, m, v, la, nx, D, I, F, T, C, t, hT, hC, hO, hX, hM, hTo, hA, hKp, hs⟩ := id hI
  obtain rfl := hC.2.1
  obtain rfl := hC.2.2.1
  obtain rfl := hX.1
  obtain ⟨hB, hHX, hHM⟩ := hab_of hC hO hX hM
  have hn := hC.1
  have hm6 := hO.1
  have hv := hO.2.1
  have hcx : Cx n D F T I C t vx_bench_drops vx_bench_from vx_bench_to vx_bench_tires vx_bench_copies vx_told vm_drops vm_tires vm_now vm_told := ⟨hB, hHX, hHM, hTo⟩
  rcases chkL N 0 (by omega) 0 (by decide) a1 with ⟨h1, h2⟩ | ⟨l, -, hl, rfl, h1, h2⟩
  · refine ⟨(-2, vx_bench_pages), (-2, vm_found, vm_pages), ?_, ?_, rfl, hI⟩
    · unfold f_X5_least; rw [show f_X5_isLength N a1 (0:Int32) = some 0 from h1, Option.bind_some, if_pos z00]
    · unfold f_X6_least; rw [h2, Option.bind_some, if_pos rfl]
  · have hp := p4_le5 hl
    rcases leastM vm_pages hN hcx hl with ⟨hno, P2, g2⟩ | ⟨k0, b1, b2, b3, P2, g2⟩
    · obtain ⟨P1, g1⟩ := leX_no hN hcx hl hno (fun z3_21 zvt_bench_pages_21 => some ((-9:Int32), zvt_bench_pages_21)) (4 ^ l) N 0 vx_bench_pages (by omega) (by omega)
      refine ⟨(-9, P1), (-9, -9, P2), ?_, ?_, rfl, hI⟩
      · unfold f_X5_least
        rw [show f_X5_isLength N (nI l) (0:Int32) = some 1 from h1, Option.bind_some, if_neg n10, eO (by omega), Option.bind_some, fO (by omega), Option.bind_some]
        exact g1
      · unfold f_X6_least
        rw [h2, Option.bind_some, if_neg n10, g2, Option.bind_some]
        rfl
    · obtain ⟨P1, g1⟩ := leX_at hN hcx hl b1 b2 b3 (fun z3_21 zvt_bench_pages_21 => some ((-9:Int32), zvt_bench_pages_21)) k0 N 0 vx_bench_pages (by omega) (by omega)
      refine ⟨(nI (fig l k0 l), P1), (nI (fig l k0 l), nI (4096 * l + k0), P2), ?_, ?_, rfl, hI⟩
      · unfold f_X5_least
        rw [show f_X5_isLength N (nI l) (0:Int32) = some 1 from h1, Option.bind_some, if_neg n10, eO (by omega), Option.bind_some, fO (by omega), Option.bind_some]
        exact g1
      · unfold f_X6_least
        rw [h2, Option.bind_some, if_neg n10, g2, Option.bind_some]
        dsimp only
        rw [if_neg (show ¬ nI (4096 * l + k0) = -9 by rw [m9_n (by omega)]; exact id)]
        exact mF_loop (show l ≤ 6 by omega) b1 (fun z2_40 z3_40 => some (z2_40, (nI (4096 * l + k0), P2))) l N 0 (by omega) (by omega)
set_option maxHeartbeats 4000000 in
theorem sim_sure (N : Nat) (hN : 200000 ≤ N) (vx_spoken : Int32) (vx_nowSeed : Int64) (vx_text_size : Int32) (vx_text_letters : Nat → Int32) (vx_bench_size : Int32) (vx_bench_drops : Nat → Int32) (vx_bench_from : Nat → Int32) (vx_bench_to : Nat → Int32) (vx_bench_tires : Nat → Int32) (vx_bench_copies : Nat → Int32) (vx_bench_pages : Nat → Int32) (vx_acts_size : Int32) (vx_acts_before : Nat → Int64) (vx_told : Nat → Int32) (vx_kept : Nat → Int64) (vm_clerks : Int32) (vm_length : Int32) (vm_acts : Int32) (vm_next : Int32) (vm_seed : Int64) (vm_drops : Nat → Int32) (vm_tires : Nat → Int32) (vm_now : Nat → Int32) (vm_told : Nat → Int32) (vm_text : Nat → Int32) (vm_pages : Nat → Int32) (vm_row : Nat → Int32) (vm_isKept : Nat → Int32) (vm_kept : Nat → Int32) (hI : Inv vx_spoken vx_nowSeed vx_text_size vx_text_letters vx_bench_size vx_bench_drops vx_bench_from vx_bench_to vx_bench_tires vx_bench_copies vx_acts_size vx_acts_before vx_told vx_kept vm_clerks vm_length vm_acts vm_next vm_seed vm_drops vm_tires vm_now vm_told vm_text vm_row vm_isKept vm_kept) (a1 : Int32) (a2 : Int32) : ∃ (R : Int32 × (Nat → Int32)) (S : Int32 × (Nat → Int32)), f_X5_sure N a1 a2 vx_bench_size vx_bench_drops vx_bench_from vx_bench_to vx_bench_tires vx_bench_copies vx_bench_pages vx_told = some R ∧ f_X6_sure N a1 a2 vm_clerks vm_drops vm_tires vm_now vm_told vm_pages = some S ∧ R.1 = S.1 ∧ Inv vx_spoken vx_nowSeed vx_text_size vx_text_letters vx_bench_size vx_bench_drops vx_bench_from vx_bench_to vx_bench_tires vx_bench_copies vx_acts_size vx_acts_before vx_told vx_kept vm_clerks vm_length vm_acts vm_next vm_seed vm_drops vm_tires vm_now vm_told vm_text vm_row vm_isKept vm_kept := by
  obtain ⟨tn, n, m, v, la, nx, D, I, F, T, C, t, hT, hC, hO, hX, hM, hTo, hA, hKp, hs⟩ := id hI
  obtain rfl := hC.2.1
  obtain rfl := hC.2.2.1
  obtain rfl := hX.1
  obtain ⟨hB, hHX, hHM⟩ := hab_of hC hO hX hM
  have hn := hC.1
  have hm6 := hO.1
  have hv := hO.2.1
  have hcx : Cx n D F T I C t vx_bench_drops vx_bench_from vx_bench_to vx_bench_tires vx_bench_copies vx_told vm_drops vm_tires vm_now vm_told := ⟨hB, hHX, hHM, hTo⟩
  rcases chkL N 1 (by omega) 1 (by decide) a1 with ⟨h1, h2⟩ | ⟨l, hl1, hl, rfl, h1, h2⟩
  · refine ⟨(-2, vx_bench_pages), (-2, vm_pages), ?_, ?_, rfl, hI⟩
    · unfold f_X5_sure; rw [show f_X5_isLength N a1 (1:Int32) = some 0 from h1, Option.bind_some, if_pos z00]
    · unfold f_X6_sure; rw [h2, Option.bind_some, if_pos rfl]
  · rcases chkI N a2 0 (nI l - (1:Int32)).toInt64 l (by decide) (pred_toInt (by omega)) (by omega) with ⟨hi, h3⟩ | ⟨pl, hpl, rfl, hi⟩
    · refine ⟨(-2, vx_bench_pages), (-2, vm_pages), ?_, ?_, rfl, hI⟩
      · unfold f_X5_sure; rw [show f_X5_isLength N (nI l) (1:Int32) = some 1 from h1, Option.bind_some, if_neg n10]
        rcases h3 with ⟨q, -⟩ | ⟨q, r, r2⟩
        · rw [if_pos q]
        · rw [if_neg q, if_neg (by rw [Int32.lt_iff_toInt_lt, nI_toInt (by omega)]; omega)]
      · unfold f_X6_sure; rw [h2, Option.bind_some, if_neg n10, hi, Option.bind_some, if_pos rfl]
    · have hp := p4_le5 hl
      have h2' : f_X6_in N (nI l).toInt64 0 5 = some 1 := by
        rw [in_b N (nI l) 0 5 0 5 (by decide) (by decide), nI_toInt (by omega), if_pos (by omega)]
      obtain ⟨P2, e2⟩ := fitsM vm_pages hN hcx hl h2'
      have c1 := cnt_le (fun v => fitB n D F T I C t l v n) (4 ^ l)
      have X5 : ∀ R, f_X5_sure_35 N (nI pl) (nI n) vx_bench_drops vx_bench_from vx_bench_to vx_bench_tires vx_bench_copies vx_told (nI (2 * 4 ^ l)) (fun z3_35 z5_35 zvt_bench_pages_35 => some (z3_35, zvt_bench_pages_35)) N (-9) (nI (4 ^ l)) vx_bench_pages = some R → f_X5_sure N (nI l) (nI pl) (nI n) vx_bench_drops vx_bench_from vx_bench_to vx_bench_tires vx_bench_copies vx_bench_pages vx_told = some R := by
        intro R hR
        unfold f_X5_sure
        rw [show f_X5_isLength N (nI l) (1:Int32) = some 1 from h1, Option.bind_some, if_neg n10, if_neg (nI_pos (by omega)), if_pos (by rw [lt_n (by omega) (by omega)]; exact hpl), eO (by omega), Option.bind_some, fO (by omega), Option.bind_some]
        exact hR
      have M6 : ∀ S, f_X6_sure_37 N (nI l) (nI pl) (nI n) vm_drops vm_tires vm_now vm_told (nI (cnt (fun v => fitB n D F T I C t l v n) (4 ^ l)), P2) (fun z4_37 zvt_pages_37 => some ((-9:Int32), zvt_pages_37)) N (nI 0) P2 = some S → f_X6_sure N (nI l) (nI pl) (nI n) vm_drops vm_tires vm_now vm_told vm_pages = some S := by
        intro S hS
        unfold f_X6_sure
        rw [h2, Option.bind_some, if_neg n10, hi, Option.bind_some, if_neg n10, e2, Option.bind_some]
        exact hS
      rcases first_fit (fun v => fitB n D F T I C t l v n) (4 ^ l) with hno | ⟨k0, b1, b2, b3⟩
      · obtain ⟨P1, g1⟩ := suX_go (y := -9) hN hcx hl hpl (fun z3_35 z5_35 zvt_bench_pages_35 => some (z3_35, zvt_bench_pages_35)) (4 ^ l) N 0 vx_bench_pages (by omega) (by omega) (fun i _ hi q => absurd q (hno i hi))
        refine ⟨(-9, P1), (-9, P2), X5 _ g1, M6 _ ?_, rfl, hI⟩
        obtain ⟨N', rfl⟩ : ∃ N', N = N' + 1 := ⟨N - 1, by omega⟩
        rw [f_X6_sure_37, if_neg (show ¬ (4:Int32) ≤ nI 0 by decide)]
        dsimp only
        rw [cnt_zero hno, if_pos (show nI 0 ≤ (0:Int32) by decide)]
      · have hw0 := wd_lt l k0 pl
        have hpos := cnt_pos (p := fun v => fitB n D F T I C t l v n) b1 b2
        obtain ⟨g', Pa, gl, ga⟩ := suX_to hN hcx hl hpl b1 b2 b3 (fun z3_35 z5_35 zvt_bench_pages_35 => some (z3_35, zvt_bench_pages_35)) k0 N 0 vx_bench_pages (by omega) (by omega)
        have iffw : ∀ w, cnt (fun v => fitB n D F T I C t l v n && decide (wd l v pl = w)) (4 ^ l) = cnt (fun v => fitB n D F T I C t l v n) (4 ^ l) ↔ ∀ i, i < 4 ^ l → fitB n D F T I C t l i n = true → wd l i pl = w := by
          intro w
          have := (cnt_and (fun v => fitB n D F T I C t l v n) (fun v => decide (wd l v pl = w)) (4 ^ l)).2
          refine this.trans ⟨fun z i hi q => ?_, fun z i hi q => ?_⟩
          · exact of_decide_eq_true (z i hi q)
          · exact decide_eq_true (z i hi q)
        by_cases all : ∀ i, i < 4 ^ l → fitB n D F T I C t l i n = true → wd l i pl = wd l k0 pl
        · obtain ⟨P1, g1⟩ := suX_go (y := nI (wd l k0 pl)) hN hcx hl hpl (fun z3_35 z5_35 zvt_bench_pages_35 => some (z3_35, zvt_bench_pages_35)) (4 ^ l - (k0 + 1)) g' (k0 + 1) Pa (by omega) gl (fun i _ hi q => by rw [all i hi q])
          obtain ⟨P3, g3⟩ := suM_loop (w0 := wd l k0 pl) (Q := P2) hN hcx hl hpl (by omega) hpos (fun w hw z => by have := (iffw w).mp z k0 b1 b2; omega) (fun _ => (iffw _).mpr all) (fun z4_37 zvt_pages_37 => some ((-9:Int32), zvt_pages_37)) (wd l k0 pl) N 0 P2 (by omega) (by omega)
          rw [if_pos hw0] at g3
          exact ⟨(nI (wd l k0 pl), P1), (nI (wd l k0 pl), P3), X5 _ (Eq.trans ga g1), M6 _ g3, rfl, hI⟩
        · obtain ⟨k1, d1, d2, d3⟩ : ∃ k1, k1 < 4 ^ l ∧ fitB n D F T I C t l k1 n = true ∧ wd l k1 pl ≠ wd l k0 pl := by
            refine Classical.byContradiction (fun z => all (fun i hi q => Classical.byContradiction (fun r => z ⟨i, hi, q, r⟩)))
          have k01 : k0 + 1 ≤ k1 := by
            rcases Nat.lt_or_ge k0 k1 with q | q
            · exact q
            · rcases Nat.lt_or_ge k1 k0 with r | r
              · exact absurd d2 (b3 k1 r)
              · have : k1 = k0 := by omega
                rw [this] at d3; exact absurd rfl d3
          obtain ⟨P1, g1⟩ := suX_no hN hcx hl hpl hw0 d1 d2 d3 (fun z3_35 z5_35 zvt_bench_pages_35 => some (z3_35, zvt_bench_pages_35)) (k1 - (k0 + 1)) g' (k0 + 1) Pa (by omega) (by omega)
          obtain ⟨P3, g3⟩ := suM_loop (w0 := 4) (Q := P2) hN hcx hl hpl (by omega) hpos (fun w hw z => by
            have z1 := (iffw w).mp z k0 b1 b2
            have z2 := (iffw w).mp z k1 d1 d2
            exact d3 (z2.trans z1.symm)) (fun q => absurd q (by omega)) (fun z4_37 zvt_pages_37 => some ((-9:Int32), zvt_pages_37)) 4 N 0 P2 (by omega) (by omega)
          rw [if_neg (by omega)] at g3
          exact ⟨(-9, P1), (-9, P3), X5 _ (Eq.trans ga g1), M6 _ g3, rfl, hI⟩
set_option maxHeartbeats 4000000 in
theorem sim_likely (N : Nat) (hN : 200000 ≤ N) (vx_spoken : Int32) (vx_nowSeed : Int64) (vx_text_size : Int32) (vx_text_letters : Nat → Int32) (vx_bench_size : Int32) (vx_bench_drops : Nat → Int32) (vx_bench_from : Nat → Int32) (vx_bench_to : Nat → Int32) (vx_bench_tires : Nat → Int32) (vx_bench_copies : Nat → Int32) (vx_bench_pages : Nat → Int32) (vx_acts_size : Int32) (vx_acts_before : Nat → Int64) (vx_told : Nat → Int32) (vx_kept : Nat → Int64) (vm_clerks : Int32) (vm_length : Int32) (vm_acts : Int32) (vm_next : Int32) (vm_seed : Int64) (vm_drops : Nat → Int32) (vm_tires : Nat → Int32) (vm_now : Nat → Int32) (vm_told : Nat → Int32) (vm_text : Nat → Int32) (vm_pages : Nat → Int32) (vm_row : Nat → Int32) (vm_isKept : Nat → Int32) (vm_kept : Nat → Int32) (hI : Inv vx_spoken vx_nowSeed vx_text_size vx_text_letters vx_bench_size vx_bench_drops vx_bench_from vx_bench_to vx_bench_tires vx_bench_copies vx_acts_size vx_acts_before vx_told vx_kept vm_clerks vm_length vm_acts vm_next vm_seed vm_drops vm_tires vm_now vm_told vm_text vm_row vm_isKept vm_kept) (a1 : Int32) (a2 : Int32) (a3 : Int32) (a4 : Int32) (hza4 : a4 = 0 ∨ a4 = 1) : ∃ (R : Int32 × (Nat → Int32)) (S : Int32 × (Nat → Int32)), f_X5_likely N a1 a2 a3 a4 vx_bench_size vx_bench_drops vx_bench_from vx_bench_to vx_bench_tires vx_bench_copies vx_bench_pages vx_told = some R ∧ f_X6_likely N a1 a2 a3 a4 vm_clerks vm_drops vm_tires vm_now vm_told vm_pages = some S ∧ R.1 = S.1 ∧ Inv vx_spoken vx_nowSeed vx_text_size vx_text_letters vx_bench_size vx_bench_drops vx_bench_from vx_bench_to vx_bench_tires vx_bench_copies vx_acts_size vx_acts_before vx_told vx_kept vm_clerks vm_length vm_acts vm_next vm_seed vm_drops vm_tires vm_now vm_told vm_text vm_row vm_isKept vm_kept := by
  obtain ⟨tn, n, m, v, la, nx, D, I, F, T, C, t, hT, hC, hO, hX, hM, hTo, hA, hKp, hs⟩ := id hI
  obtain rfl := hC.2.1
  obtain rfl := hC.2.2.1
  obtain rfl := hX.1
  obtain ⟨hB, hHX, hHM⟩ := hab_of hC hO hX hM
  have hn := hC.1
  have hm6 := hO.1
  have hv := hO.2.1
  have hcx : Cx n D F T I C t vx_bench_drops vx_bench_from vx_bench_to vx_bench_tires vx_bench_copies vx_told vm_drops vm_tires vm_now vm_told := ⟨hB, hHX, hHM, hTo⟩
  have bad : f_X5_likely N a1 a2 a3 a4 (nI n) vx_bench_drops vx_bench_from vx_bench_to vx_bench_tires vx_bench_copies vx_bench_pages vx_told = some (-2, vx_bench_pages) → f_X6_likely N a1 a2 a3 a4 (nI n) vm_drops vm_tires vm_now vm_told vm_pages = some (-2, vm_pages) → ∃ (R : Int32 × (Nat → Int32)) (S : Int32 × (Nat → Int32)), f_X5_likely N a1 a2 a3 a4 (nI n) vx_bench_drops vx_bench_from vx_bench_to vx_bench_tires vx_bench_copies vx_bench_pages vx_told = some R ∧ f_X6_likely N a1 a2 a3 a4 (nI n) vm_drops vm_tires vm_now vm_told vm_pages = some S ∧ R.1 = S.1 ∧ Inv (nI (4 ^ m + v)) vx_nowSeed vx_text_size vx_text_letters (nI n) vx_bench_drops vx_bench_from vx_bench_to vx_bench_tires vx_bench_copies vx_acts_size vx_acts_before vx_told vx_kept (nI n) vm_length vm_acts vm_next vm_seed vm_drops vm_tires vm_now vm_told vm_text vm_row vm_isKept vm_kept := fun e1 e2 => ⟨_, _, e1, e2, rfl, hI⟩
  rcases chkL N 1 (by omega) 1 (by decide) a1 with ⟨h1, h2⟩ | ⟨l, hl1, hl, rfl, h1, h2⟩
  · refine bad ?_ ?_
    · unfold f_X5_likely; rw [show f_X5_isLength N a1 (1:Int32) = some 0 from h1, Option.bind_some, if_pos z00]
    · unfold f_X6_likely; rw [h2, Option.bind_some, if_pos rfl]
  · rcases chkI N a2 0 (nI l - (1:Int32)).toInt64 l (by decide) (pred_toInt (by omega)) (by omega) with ⟨hi, h3⟩ | ⟨pl, hpl, rfl, hi⟩
    · refine bad ?_ ?_
      · unfold f_X5_likely; rw [show f_X5_isLength N (nI l) (1:Int32) = some 1 from h1, Option.bind_some, if_neg n10]
        rcases h3 with ⟨q, -⟩ | ⟨q, r, r2⟩
        · rw [if_pos q]
        · rw [if_neg q, if_pos r]
      · unfold f_X6_likely; rw [h2, Option.bind_some, if_neg n10, hi, Option.bind_some, if_pos rfl]
    · rcases chkW N a3 with ⟨g1, g2⟩ | ⟨w, hw, rfl, g1, g2⟩
      · refine bad ?_ ?_
        · unfold f_X5_likely; rw [show f_X5_isLength N (nI l) (1:Int32) = some 1 from h1, Option.bind_some, if_neg n10, if_neg (nI_pos (by omega)), if_neg (by rw [le_n (by omega) (by omega)]; omega), g1, Option.bind_some, if_pos rfl]
        · unfold f_X6_likely; rw [h2, Option.bind_some, if_neg n10, hi, Option.bind_some, if_neg n10, g2, Option.bind_some, if_pos rfl]
      · have hp := p4_le5 hl
        have h2' : f_X6_in N (nI l).toInt64 0 5 = some 1 := by
          rw [in_b N (nI l) 0 5 0 5 (by decide) (by decide), nI_toInt (by omega), if_pos (by omega)]
        obtain ⟨P2, e2⟩ := fitsM vm_pages hN hcx hl h2'
        obtain ⟨P1, e1⟩ := lkX_loop hN hcx hl hpl hw (fun z5_45 z6_45 z8_45 zvt_bench_pages_45 => if z5_45 = (0:Int32) then some ((-3:Int32), zvt_bench_pages_45) else (f_X5_partOfFraction N z6_45 z5_45 a4).bind (fun x10 => some (x10, zvt_bench_pages_45))) (4 ^ l) N 0 vx_bench_pages (by omega) (by omega)
        have c1 := cnt_le (fun v => fitB n D F T I C t l v n) (4 ^ l)
        have c2 := cnt_le (fun v => fitB n D F T I C t l v n && decide (wd l v pl = w)) (4 ^ l)
        have X5 : f_X5_likely N (nI l) (nI pl) (nI w) a4 (nI n) vx_bench_drops vx_bench_from vx_bench_to vx_bench_tires vx_bench_copies vx_bench_pages vx_told = (if nI (cnt (fun v => fitB n D F T I C t l v n) (4 ^ l)) = (0:Int32) then some ((-3:Int32), P1) else (f_X5_partOfFraction N (nI (cnt (fun v => fitB n D F T I C t l v n && decide (wd l v pl = w)) (4 ^ l))) (nI (cnt (fun v => fitB n D F T I C t l v n) (4 ^ l))) a4).bind (fun x10 => some (x10, P1))) := by
          unfold f_X5_likely
          rw [show f_X5_isLength N (nI l) (1:Int32) = some 1 from h1, Option.bind_some, if_neg n10, if_neg (nI_pos (by omega)), if_neg (by rw [le_n (by omega) (by omega)]; omega), g1, Option.bind_some, if_neg n10, eO (by omega), Option.bind_some, fO (by omega), Option.bind_some]
          exact e1
        by_cases z : cnt (fun v => fitB n D F T I C t l v n) (4 ^ l) = 0
        · refine ⟨(-3, P1), (-3, P2), ?_, ?_, rfl, hI⟩
          · rw [X5, z, if_pos (show nI 0 = (0:Int32) from rfl)]
          · unfold f_X6_likely
            rw [h2, Option.bind_some, if_neg n10, hi, Option.bind_some, if_neg n10, g2, Option.bind_some, if_neg n10, e2, Option.bind_some]
            dsimp only
            rw [z, if_pos (show nI 0 = (0:Int32) from rfl)]
        · obtain ⟨P3, e3⟩ := fwM P2 hN hcx hl hpl hw
          have hg0 := Nat.gcd_pos_of_pos_right (cnt (fun v => fitB n D F T I C t l v n && decide (wd l v pl = w)) (4 ^ l)) (show 0 < cnt (fun v => fitB n D F T I C t l v n) (4 ^ l) by omega)
          have hgl := Nat.le_of_dvd (show 0 < cnt (fun v => fitB n D F T I C t l v n) (4 ^ l) by omega) (Nat.gcd_dvd_right (cnt (fun v => fitB n D F T I C t l v n && decide (wd l v pl = w)) (4 ^ l)) (cnt (fun v => fitB n D F T I C t l v n) (4 ^ l)))
          refine ⟨(nI ((if a4 = 0 then cnt (fun v => fitB n D F T I C t l v n) (4 ^ l) else cnt (fun v => fitB n D F T I C t l v n && decide (wd l v pl = w)) (4 ^ l)) / Nat.gcd (cnt (fun v => fitB n D F T I C t l v n && decide (wd l v pl = w)) (4 ^ l)) (cnt (fun v => fitB n D F T I C t l v n) (4 ^ l))), P1), (nI ((if a4 = 0 then cnt (fun v => fitB n D F T I C t l v n) (4 ^ l) else cnt (fun v => fitB n D F T I C t l v n && decide (wd l v pl = w)) (4 ^ l)) / Nat.gcd (cnt (fun v => fitB n D F T I C t l v n && decide (wd l v pl = w)) (4 ^ l)) (cnt (fun v => fitB n D F T I C t l v n) (4 ^ l))), P3), ?_, ?_, rfl, hI⟩
          · rw [X5, if_neg (nI_ne0 (by omega) (by omega)), fracX hN (by omega) (by omega) (by omega) hza4, Option.bind_some]
          · unfold f_X6_likely
            rw [h2, Option.bind_some, if_neg n10, hi, Option.bind_some, if_neg n10, g2, Option.bind_some, if_neg n10, e2, Option.bind_some]
            dsimp only
            rw [if_neg (nI_ne0 (by omega) (by omega)), e3, Option.bind_some]
            dsimp only
            rw [fracM hN (by omega) (by omega), Option.bind_some, gN_n hg0 (by omega), gN_n hg0 (by omega), div_n (by omega) hg0 (by omega), div_n (by omega) hg0 (by omega)]
            by_cases y : a4 = 0
            · rw [if_pos y, if_pos y]
            · rw [if_neg y, if_neg y]
set_option maxHeartbeats 4000000 in
theorem sim_toRead (N : Nat) (hN : 200000 ≤ N) (vx_spoken : Int32) (vx_nowSeed : Int64) (vx_text_size : Int32) (vx_text_letters : Nat → Int32) (vx_bench_size : Int32) (vx_bench_drops : Nat → Int32) (vx_bench_from : Nat → Int32) (vx_bench_to : Nat → Int32) (vx_bench_tires : Nat → Int32) (vx_bench_copies : Nat → Int32) (vx_bench_pages : Nat → Int32) (vx_acts_size : Int32) (vx_acts_before : Nat → Int64) (vx_drawers_lying : Nat → Int64) (vx_told : Nat → Int32) (vx_kept : Nat → Int64) (vm_clerks : Int32) (vm_length : Int32) (vm_acts : Int32) (vm_next : Int32) (vm_seed : Int64) (vm_drops : Nat → Int32) (vm_tires : Nat → Int32) (vm_now : Nat → Int32) (vm_told : Nat → Int32) (vm_text : Nat → Int32) (vm_pages : Nat → Int32) (vm_row : Nat → Int32) (vm_alike : Nat → Int32) (vm_isKept : Nat → Int32) (vm_kept : Nat → Int32) (hI : Inv vx_spoken vx_nowSeed vx_text_size vx_text_letters vx_bench_size vx_bench_drops vx_bench_from vx_bench_to vx_bench_tires vx_bench_copies vx_acts_size vx_acts_before vx_told vx_kept vm_clerks vm_length vm_acts vm_next vm_seed vm_drops vm_tires vm_now vm_told vm_text vm_row vm_isKept vm_kept) (a1 : Int32) : ∃ (R : Int32 × (Nat → Int32) × (Nat → Int64)) (S : Int32 × (Nat → Int32) × (Nat → Int32)), f_X5_toRead N a1 vx_bench_size vx_bench_drops vx_bench_from vx_bench_to vx_bench_tires vx_bench_copies vx_bench_pages vx_drawers_lying vx_told = some R ∧ f_X6_toRead N a1 vm_clerks vm_drops vm_tires vm_now vm_told vm_pages vm_alike = some S ∧ R.1 = S.1 ∧ Inv vx_spoken vx_nowSeed vx_text_size vx_text_letters vx_bench_size vx_bench_drops vx_bench_from vx_bench_to vx_bench_tires vx_bench_copies vx_acts_size vx_acts_before vx_told vx_kept vm_clerks vm_length vm_acts vm_next vm_seed vm_drops vm_tires vm_now vm_told vm_text vm_row vm_isKept vm_kept := by
  obtain ⟨tn, n, m, v, la, nx, D, I, F, T, C, t, hT, hC, hO, hX, hM, hTo, hA, hKp, hs⟩ := id hI
  obtain rfl := hC.2.1
  obtain rfl := hC.2.2.1
  obtain rfl := hX.1
  obtain ⟨hB, hHX, hHM⟩ := hab_of hC hO hX hM
  have hn := hC.1
  have hm6 := hO.1
  have hv := hO.2.1
  have hcx : Cx n D F T I C t vx_bench_drops vx_bench_from vx_bench_to vx_bench_tires vx_bench_copies vx_told vm_drops vm_tires vm_now vm_told := ⟨hB, hHX, hHM, hTo⟩
  rcases chkL N 0 (by omega) 0 (by decide) a1 with ⟨h1, h2⟩ | ⟨l, -, hl, rfl, h1, h2⟩
  · refine ⟨(-2, vx_bench_pages, vx_drawers_lying), (-2, vm_pages, vm_alike), ?_, ?_, rfl, hI⟩
    · unfold f_X5_toRead; rw [show f_X5_isLength N a1 (0:Int32) = some 0 from h1, Option.bind_some, if_pos z00]
    · unfold f_X6_toRead; rw [h2, Option.bind_some, if_pos rfl]
  · unfold f_X5_toRead f_X6_toRead
    rw [show f_X5_isLength N (nI l) (0:Int32) = some 1 from h1, h2, Option.bind_some, Option.bind_some, if_neg n10, if_neg n10]
    rcases leastM vm_pages hN hcx hl with ⟨hno, P1, g1⟩ | ⟨k0, hk0, hf, -, P1, g1⟩
    · rw [g1, Option.bind_some]
      dsimp only
      rw [if_pos rfl]
      obtain ⟨P', L', g2⟩ := tr_no hN hcx hl hno n N 0 0 vx_bench_pages vx_drawers_lying (by omega) (by omega)
      exact ⟨_, _, g2, rfl, rfl, hI⟩
    · have hp := p4_le5 hl
      rw [g1, Option.bind_some]
      dsimp only
      rw [if_neg (by rw [m9_n (by omega)]; exact id)]
      obtain ⟨r, P', L', Q', A', g2, g3⟩ := tr_go hN hcx hl hk0 hf n N 0 (-9) 0 vx_bench_pages P1 vx_drawers_lying vm_alike (by omega) (by omega) (Or.inl rfl)
      exact ⟨_, _, g2, g3, rfl, hI⟩
set_option maxHeartbeats 4000000 in
theorem sim_habits (N : Nat) (hN : 200000 ≤ N) (vx_spoken : Int32) (vx_nowSeed : Int64) (vx_text_size : Int32) (vx_text_letters : Nat → Int32) (vx_bench_size : Int32) (vx_bench_drops : Nat → Int32) (vx_bench_from : Nat → Int32) (vx_bench_to : Nat → Int32) (vx_bench_tires : Nat → Int32) (vx_bench_copies : Nat → Int32) (vx_acts_size : Int32) (vx_acts_before : Nat → Int64) (vx_told : Nat → Int32) (vx_kept : Nat → Int64) (vm_clerks : Int32) (vm_length : Int32) (vm_acts : Int32) (vm_next : Int32) (vm_seed : Int64) (vm_drops : Nat → Int32) (vm_tires : Nat → Int32) (vm_now : Nat → Int32) (vm_told : Nat → Int32) (vm_text : Nat → Int32) (vm_row : Nat → Int32) (vm_isKept : Nat → Int32) (vm_kept : Nat → Int32) (hI : Inv vx_spoken vx_nowSeed vx_text_size vx_text_letters vx_bench_size vx_bench_drops vx_bench_from vx_bench_to vx_bench_tires vx_bench_copies vx_acts_size vx_acts_before vx_told vx_kept vm_clerks vm_length vm_acts vm_next vm_seed vm_drops vm_tires vm_now vm_told vm_text vm_row vm_isKept vm_kept) (a1 : Int32) : ∃ (R : Int32) (S : Int32), f_X5_habits N a1 vx_spoken vx_bench_size vx_told = some R ∧ f_X6_habits N a1 vm_clerks vm_now vm_told = some S ∧ R = S ∧ Inv vx_spoken vx_nowSeed vx_text_size vx_text_letters vx_bench_size vx_bench_drops vx_bench_from vx_bench_to vx_bench_tires vx_bench_copies vx_acts_size vx_acts_before vx_told vx_kept vm_clerks vm_length vm_acts vm_next vm_seed vm_drops vm_tires vm_now vm_told vm_text vm_row vm_isKept vm_kept := by
  obtain ⟨tn, n, m, v, la, nx, D, I, F, T, C, t, hT, hC, hO, hX, hM, hTo, hA, hKp, hs⟩ := id hI
  obtain rfl := hC.2.1
  obtain rfl := hC.2.2.1
  obtain rfl := hX.1
  obtain ⟨hB, hHX, hHM⟩ := hab_of hC hO hX hM
  have hn := hC.1
  have hm6 := hO.1
  have hv := hO.2.1
  unfold f_X5_habits f_X6_habits
  rcases chkC N n hC.1 a1 with ⟨h1, h2⟩ | ⟨c, hc, rfl, h1, h2⟩
  · rw [h1, h2, Option.bind_some, Option.bind_some, if_pos z00, if_pos z00]
    exact ⟨_, _, rfl, rfl, rfl, hI⟩
  · rw [h1, h2, Option.bind_some, Option.bind_some, if_neg n10, if_neg n10, cl_n (by omega), gI_n (by omega) (by omega), gI_n (by omega) (by omega)]
    rcases toldCase N hN hTo hn hc with ⟨-, t1, t2, -, -⟩ | ⟨a, b, -, ha, hb, t1, t2, t3, t4, -, -⟩
    · rw [if_pos t1, if_pos t2]
      exact ⟨_, _, rfl, rfl, rfl, hI⟩
    · rw [if_neg t3, if_neg t4]
      have X5 := hsX_loop (to := vx_told) hN hm6 hv ha hb (show c < 4 by omega) t1 (fun z2_29 z3_29 => some z2_29) 1250 N 0 0 (by omega) (by omega)
      have M6 := hsM_loop (mt := vm_told) hN hm6 hv ha hb (show c < 4 by omega) hM.1 t2 (fun z2_28 z3_28 => some z2_28) 650 N 0 0 (by omega) (by omega)
      rw [hs_same] at X5
      exact ⟨_, _, X5, M6, rfl, hI⟩
set_option maxHeartbeats 4000000 in
theorem sim_habit (N : Nat) (hN : 200000 ≤ N) (vx_spoken : Int32) (vx_nowSeed : Int64) (vx_text_size : Int32) (vx_text_letters : Nat → Int32) (vx_bench_size : Int32) (vx_bench_drops : Nat → Int32) (vx_bench_from : Nat → Int32) (vx_bench_to : Nat → Int32) (vx_bench_tires : Nat → Int32) (vx_bench_copies : Nat → Int32) (vx_acts_size : Int32) (vx_acts_before : Nat → Int64) (vx_told : Nat → Int32) (vx_kept : Nat → Int64) (vm_clerks : Int32) (vm_length : Int32) (vm_acts : Int32) (vm_next : Int32) (vm_seed : Int64) (vm_drops : Nat → Int32) (vm_tires : Nat → Int32) (vm_now : Nat → Int32) (vm_told : Nat → Int32) (vm_text : Nat → Int32) (vm_row : Nat → Int32) (vm_isKept : Nat → Int32) (vm_kept : Nat → Int32) (hI : Inv vx_spoken vx_nowSeed vx_text_size vx_text_letters vx_bench_size vx_bench_drops vx_bench_from vx_bench_to vx_bench_tires vx_bench_copies vx_acts_size vx_acts_before vx_told vx_kept vm_clerks vm_length vm_acts vm_next vm_seed vm_drops vm_tires vm_now vm_told vm_text vm_row vm_isKept vm_kept) (a1 : Int32) : ∃ (R : Int32) (S : Int32), f_X5_habit N a1 vx_spoken vx_bench_size vx_told = some R ∧ f_X6_habit N a1 vm_clerks vm_now vm_told = some S ∧ R = S ∧ Inv vx_spoken vx_nowSeed vx_text_size vx_text_letters vx_bench_size vx_bench_drops vx_bench_from vx_bench_to vx_bench_tires vx_bench_copies vx_acts_size vx_acts_before vx_told vx_kept vm_clerks vm_length vm_acts vm_next vm_seed vm_drops vm_tires vm_now vm_told vm_text vm_row vm_isKept vm_kept := by
  obtain ⟨tn, n, m, v, la, nx, D, I, F, T, C, t, hT, hC, hO, hX, hM, hTo, hA, hKp, hs⟩ := id hI
  obtain rfl := hC.2.1
  obtain rfl := hC.2.2.1
  obtain rfl := hX.1
  obtain ⟨hB, hHX, hHM⟩ := hab_of hC hO hX hM
  have hn := hC.1
  have hm6 := hO.1
  have hv := hO.2.1
  unfold f_X5_habit f_X6_habit
  rcases chkC N n hC.1 a1 with ⟨h1, h2⟩ | ⟨c, hc, rfl, h1, h2⟩
  · rw [h1, h2, Option.bind_some, Option.bind_some, if_pos z00, if_pos z00]
    exact ⟨_, _, rfl, rfl, rfl, hI⟩
  · rw [h1, h2, Option.bind_some, Option.bind_some, if_neg n10, if_neg n10, cl_n (by omega), gI_n (by omega) (by omega), gI_n (by omega) (by omega)]
    rcases toldCase N hN hTo hn hc with ⟨-, t1, t2, -, -⟩ | ⟨a, b, -, ha, hb, t1, t2, t3, t4, -, -⟩
    · rw [if_pos t1, if_pos t2]
      exact ⟨_, _, rfl, rfl, rfl, hI⟩
    · rw [if_neg t3, if_neg t4]
      have X5 := hbX_loop (to := vx_told) hN hm6 hv ha hb (show c < 4 by omega) t1 (fun z2_27 => some (-9:Int32)) 1250 N 0 (by omega) (by omega)
      have M6 := hbM_loop (mt := vm_told) hN hm6 hv ha hb (show c < 4 by omega) hM.1 t2 (fun z2_26 => some (-9:Int32)) 650 N 0 (by omega) (by omega)
      rw [hb_same] at X5
      have : ∃ r, aftH (((List.range' 0 650).find? (fun h => qH m v (a, b) (phi h))).map phi) (some (-9:Int32)) = some r := by
        unfold aftH
        split
        · exact ⟨_, rfl⟩
        · exact ⟨_, rfl⟩
      obtain ⟨r, hr⟩ := this
      exact ⟨r, r, X5.trans hr, M6.trans hr, rfl, hI⟩
set_option maxHeartbeats 4000000 in
theorem sim_copied (N : Nat) (hN : 200000 ≤ N) (vx_spoken : Int32) (vx_nowSeed : Int64) (vx_text_size : Int32) (vx_text_letters : Nat → Int32) (vx_bench_size : Int32) (vx_bench_drops : Nat → Int32) (vx_bench_from : Nat → Int32) (vx_bench_to : Nat → Int32) (vx_bench_tires : Nat → Int32) (vx_bench_copies : Nat → Int32) (vx_bench_pages : Nat → Int32) (vx_acts_size : Int32) (vx_acts_before : Nat → Int64) (vx_told : Nat → Int32) (vx_kept : Nat → Int64) (vm_clerks : Int32) (vm_length : Int32) (vm_acts : Int32) (vm_next : Int32) (vm_seed : Int64) (vm_drops : Nat → Int32) (vm_tires : Nat → Int32) (vm_now : Nat → Int32) (vm_told : Nat → Int32) (vm_text : Nat → Int32) (vm_pages : Nat → Int32) (vm_row : Nat → Int32) (vm_isKept : Nat → Int32) (vm_kept : Nat → Int32) (hI : Inv vx_spoken vx_nowSeed vx_text_size vx_text_letters vx_bench_size vx_bench_drops vx_bench_from vx_bench_to vx_bench_tires vx_bench_copies vx_acts_size vx_acts_before vx_told vx_kept vm_clerks vm_length vm_acts vm_next vm_seed vm_drops vm_tires vm_now vm_told vm_text vm_row vm_isKept vm_kept) (a1 : Int32) : ∃ (R : Int32 × (Nat → Int32)) (S : Int32 × (Nat → Int32)), f_X5_copied N a1 vx_spoken vx_bench_size vx_bench_drops vx_bench_from vx_bench_to vx_bench_tires vx_bench_copies vx_bench_pages vx_told = some R ∧ f_X6_copied N a1 vm_clerks vm_drops vm_tires vm_now vm_told vm_pages = some S ∧ R.1 = S.1 ∧ Inv vx_spoken vx_nowSeed vx_text_size vx_text_letters vx_bench_size vx_bench_drops vx_bench_from vx_bench_to vx_bench_tires vx_bench_copies vx_acts_size vx_acts_before vx_told vx_kept vm_clerks vm_length vm_acts vm_next vm_seed vm_drops vm_tires vm_now vm_told vm_text vm_row vm_isKept vm_kept := by
  obtain ⟨tn, n, m, v, la, nx, D, I, F, T, C, t, hT, hC, hO, hX, hM, hTo, hA, hKp, hs⟩ := id hI
  obtain rfl := hC.2.1
  obtain rfl := hC.2.2.1
  obtain rfl := hX.1
  obtain ⟨hB, hHX, hHM⟩ := hab_of hC hO hX hM
  have hn := hC.1
  have hm6 := hO.1
  have hv := hO.2.1
  unfold f_X5_copied f_X6_copied
  have hm := hm6
  rcases chkC N n hC.1 a1 with ⟨h1, h2⟩ | ⟨c, hc, rfl, h1, h2⟩
  · rw [h1, h2, Option.bind_some, Option.bind_some, if_pos z00, if_pos z00]
    exact ⟨_, _, rfl, rfl, rfl, hI⟩
  · rw [h1, h2, Option.bind_some, Option.bind_some, if_neg n10, if_neg n10, cl_n (by omega), gI_n (by omega) (by omega), gI_n (by omega) (by omega)]
    rcases toldCase N hN hTo hn hc with ⟨-, t1, t2, -, -⟩ | ⟨a, b, -, ha, hb, t1, t2, t3, t4, -, -⟩
    · rw [if_pos t1, if_pos t2]
      exact ⟨_, _, rfl, rfl, rfl, hI⟩
    · rw [if_neg t3, if_neg t4]
      obtain ⟨P1, g1, hP1⟩ := tD vx_bench_pages hN hB hHX hm hv
      obtain ⟨P2, g2, hP2⟩ := lP9 vm_pages hN hB hHM hm hv
      have hbc := hB.2 c hc
      obtain ⟨q1, q2⟩ := wrt_ok (d := D c) (f := F c) (ti := I c) (m := m) (v := v) hbc.2.2.1 hbc.2.2.2.2.2 m
      rw [g1, Option.bind_some, pF hN hB hHX hc hm hv, Option.bind_some, gI_n (by omega) (by omega), t1, hM.1, g2, Option.bind_some]
      have M6 := cpM_loop (mt := vm_told) hN hB hHM hm hv hP2 hc ha hb t2 hM.1 (fun z2_40 z3_40 => some (z2_40, P2)) 4 N 0 (by omega) (by omega)
      have e0 : nI (bb (cpP D F T I C m v n c (a, b)) (if 0 < n then 0 else n)) = (0:Int32) := by
        rw [if_pos (by omega)]; rfl
      rw [e0, show nI 0 = (0:Int32) from rfl] at M6
      rw [M6]
      by_cases w : wrt (D c) (F c) (T c) (I c) m v m = (a, b)
      · have X5 := cpX_loop (x := 1) hN hB hHX hm hv hP1 hc ha hb t1 (by omega) (fun z2_66 z3_66 => some (z2_66, P1)) n N 0 (by omega) (by omega)
        rw [if_pos (by rw [rC_eq (by omega) ha q2 hb]; exact w), if_pos w]
        exact ⟨_, _, X5, rfl, rfl, hI⟩
      · have X5 := cpX_loop (x := 0) hN hB hHX hm hv hP1 hc ha hb t1 (by omega) (fun z2_66 z3_66 => some (z2_66, P1)) n N 0 (by omega) (by omega)
        rw [if_neg (by rw [rC_eq (by omega) ha q2 hb]; exact w), if_neg w]
        exact ⟨_, _, X5, rfl, rfl, hI⟩
set_option maxHeartbeats 4000000 in
theorem sim_leaves (N : Nat) (hN : 200000 ≤ N) (vx_spoken : Int32) (vx_nowSeed : Int64) (vx_text_size : Int32) (vx_text_letters : Nat → Int32) (vx_bench_size : Int32) (vx_bench_drops : Nat → Int32) (vx_bench_from : Nat → Int32) (vx_bench_to : Nat → Int32) (vx_bench_tires : Nat → Int32) (vx_bench_copies : Nat → Int32) (vx_bench_pages : Nat → Int32) (vx_acts_size : Int32) (vx_acts_before : Nat → Int64) (vx_told : Nat → Int32) (vx_kept : Nat → Int64) (vm_clerks : Int32) (vm_length : Int32) (vm_acts : Int32) (vm_next : Int32) (vm_seed : Int64) (vm_drops : Nat → Int32) (vm_tires : Nat → Int32) (vm_now : Nat → Int32) (vm_told : Nat → Int32) (vm_text : Nat → Int32) (vm_pages : Nat → Int32) (vm_row : Nat → Int32) (vm_isKept : Nat → Int32) (vm_kept : Nat → Int32) (hI : Inv vx_spoken vx_nowSeed vx_text_size vx_text_letters vx_bench_size vx_bench_drops vx_bench_from vx_bench_to vx_bench_tires vx_bench_copies vx_acts_size vx_acts_before vx_told vx_kept vm_clerks vm_length vm_acts vm_next vm_seed vm_drops vm_tires vm_now vm_told vm_text vm_row vm_isKept vm_kept) (a1 : Int32) : ∃ (R : Int32 × (Nat → Int32)) (S : Int32 × (Nat → Int32)), f_X5_leaves N a1 vx_spoken vx_bench_size vx_bench_drops vx_bench_from vx_bench_to vx_bench_tires vx_bench_copies vx_bench_pages vx_told = some R ∧ f_X6_leaves N a1 vm_clerks vm_drops vm_tires vm_now vm_told vm_pages = some S ∧ R.1 = S.1 ∧ Inv vx_spoken vx_nowSeed vx_text_size vx_text_letters vx_bench_size vx_bench_drops vx_bench_from vx_bench_to vx_bench_tires vx_bench_copies vx_acts_size vx_acts_before vx_told vx_kept vm_clerks vm_length vm_acts vm_next vm_seed vm_drops vm_tires vm_now vm_told vm_text vm_row vm_isKept vm_kept := by
  obtain ⟨tn, n, m, v, la, nx, D, I, F, T, C, t, hT, hC, hO, hX, hM, hTo, hA, hKp, hs⟩ := id hI
  obtain rfl := hC.2.1
  obtain rfl := hC.2.2.1
  obtain rfl := hX.1
  obtain ⟨hB, hHX, hHM⟩ := hab_of hC hO hX hM
  have hn := hC.1
  have hm6 := hO.1
  have hv := hO.2.1
  unfold f_X5_leaves f_X6_leaves
  rcases chkC N n hC.1 a1 with ⟨h1, h2⟩ | ⟨c, hc, rfl, h1, h2⟩
  · rw [h1, h2, Option.bind_some, Option.bind_some, if_pos z00, if_pos z00]
    exact ⟨_, _, rfl, rfl, rfl, hI⟩
  · rw [h1, h2, Option.bind_some, Option.bind_some, if_neg n10, if_neg n10, cl_n (by omega), gI_n (by omega) (by omega), gI_n (by omega) (by omega), gI_n (by omega) (by omega)]
    rcases toldCase N hN hTo hn hc with ⟨-, t1, t2, -, -⟩ | ⟨a, b, -, ha, hb, t1, t2, t3, t4, -, -⟩
    · rw [if_pos t1, if_pos t2]
      exact ⟨_, _, rfl, rfl, rfl, hI⟩
    · rw [if_neg t3, if_neg t4]
      obtain ⟨P1, g1, hP1⟩ := tD vx_bench_pages hN hB hHX hm6 hv
      obtain ⟨P2, g2, hP2⟩ := lP9 vm_pages hN hB hHM hm6 hv
      obtain ⟨p1, p2⟩ := pgl_ok hB hv n (by omega) c hc
      have e1 := hP1 c hc
      have e2 := hP2 c hc
      generalize (pgl D F T I C m v n c).1 = pm at p1 p2 e1 e2
      generalize (pgl D F T I C m v n c).2 = pv at p1 p2 e1 e2
      obtain ⟨nl, hnl⟩ : ∃ nl, nl = (pm + 1) / 2 := ⟨_, rfl⟩
      have X5 := ogX (nl := nl) hN (show pm ≤ 6 by omega) p2 hnl ha hb 4 0 (0, 0) (p4_2 nl) rfl (Nat.zero_le _) Nat.one_pos
      have X5' : f_X5_ordersThatGive N 4 (nI (4 ^ a + b)) (nI (4 ^ pm + pv)) (1:Int32) (0:Int32) = _ := X5
      unfold f_X5_pageNow
      rw [g1, Option.bind_some, gI_n (by omega) (by omega), Option.bind_some, cl_n (by omega)]
      dsimp only
      rw [t1, e1, X5', Option.bind_some, hM.1, g2, Option.bind_some]
      simp only [gI_n (show c < 4 by omega) (show (4:Nat) < 2147483648 by decide)]
      rw [e2, wO (by omega) p2, Option.bind_some, show (nI pm + (1:Int32)) / (2:Int32) = nI nl by rw [A1r, L2, div_n (by omega) (by omega) (by omega), hnl]]
      by_cases z : nl = 0
      · rw [if_pos (by rw [z]; rfl), t2]
        subst z
        have o0 : og pm pv 0 (a, b) 4 (0, 0) 0 = if (0, 0) = (a, b) then 1 else 0 := rfl
        rw [o0]
        by_cases w : ((0, 0) : Nat × Nat) = (a, b)
        · rw [if_pos w, if_pos (by obtain ⟨rfl, rfl⟩ := Prod.mk.inj w; rfl)]
          exact ⟨_, _, rfl, rfl, rfl, hI⟩
        · rw [if_neg w, if_neg (by intro u; have := (rM_eq (a := a) (b := b) (c := 0) (d := 0) ha (by omega) hb (by decide)); exact w ((this ▸ u : (a, b) = (0, 0)).symm))]
          exact ⟨_, _, rfl, rfl, rfl, hI⟩
      · rw [if_neg (by rw [L0, eq_n (by omega) (by omega)]; exact z)]
        have M6 := lv77 (mt := vm_told) hN (show pm ≤ 6 by omega) p2 hnl (by omega) e2 (show c < 4 by omega) ha hb t2 (fun z4_77 z5_77 => some (z4_77, P2)) 27 N 0 (by omega) (by omega)
        have hsame : og pm pv nl (a, b) 4 (0, 0) 0 = cnt (fun y => okp nl y && decide (rf pm pv nl y nl = (a, b))) 27 := by
          rcases (show nl = 1 ∨ nl = 2 ∨ nl = 3 by omega) with e | e | e
          · rw [e]; exact same1 pm pv (a, b)
          · rw [e]; exact same2 pm pv (a, b)
          · rw [e]; exact same3 pm pv (a, b)
        rw [hsame]
        exact ⟨_, _, rfl, M6, rfl, hI⟩
set_option maxHeartbeats 4000000 in
theorem sim_fewest (N : Nat) (hN : 200000 ≤ N) (vx_spoken : Int32) (vx_nowSeed : Int64) (vx_text_size : Int32) (vx_text_letters : Nat → Int32) (vx_bench_size : Int32) (vx_bench_drops : Nat → Int32) (vx_bench_from : Nat → Int32) (vx_bench_to : Nat → Int32) (vx_bench_tires : Nat → Int32) (vx_bench_copies : Nat → Int32) (vx_bench_pages : Nat → Int32) (vx_acts_size : Int32) (vx_acts_before : Nat → Int64) (vx_drawers_lying : Nat → Int64) (vx_told : Nat → Int32) (vx_kept : Nat → Int64) (vm_clerks : Int32) (vm_length : Int32) (vm_acts : Int32) (vm_next : Int32) (vm_seed : Int64) (vm_drops : Nat → Int32) (vm_tires : Nat → Int32) (vm_now : Nat → Int32) (vm_told : Nat → Int32) (vm_text : Nat → Int32) (vm_pages : Nat → Int32) (vm_row : Nat → Int32) (vm_table : Nat → Int32) (vm_keys : Nat → Int32) (vm_isKept : Nat → Int32) (vm_kept : Nat → Int32) (hI : Inv vx_spoken vx_nowSeed vx_text_size vx_text_letters vx_bench_size vx_bench_drops vx_bench_from vx_bench_to vx_bench_tires vx_bench_copies vx_acts_size vx_acts_before vx_told vx_kept vm_clerks vm_length vm_acts vm_next vm_seed vm_drops vm_tires vm_now vm_told vm_text vm_row vm_isKept vm_kept) (a1 : Int32) : ∃ (R : Int32 × (Nat → Int32) × (Nat → Int64)) (S : Int32 × (Nat → Int32) × (Nat → Int32) × (Nat → Int32)), f_X5_fewest N a1 vx_bench_size vx_bench_drops vx_bench_from vx_bench_to vx_bench_tires vx_bench_copies vx_bench_pages vx_drawers_lying = some R ∧ f_X6_fewest N a1 vm_clerks vm_drops vm_tires vm_now vm_pages vm_table vm_keys = some S ∧ R.1 = S.1 ∧ Inv vx_spoken vx_nowSeed vx_text_size vx_text_letters vx_bench_size vx_bench_drops vx_bench_from vx_bench_to vx_bench_tires vx_bench_copies vx_acts_size vx_acts_before vx_told vx_kept vm_clerks vm_length vm_acts vm_next vm_seed vm_drops vm_tires vm_now vm_told vm_text vm_row vm_isKept vm_kept := by
  obtain ⟨tn, n, m, v, la, nx, D, I, F, T, C, t, hT, hC, hO, hX, hM, hTo, hA, hKp, hs⟩ := id hI
  obtain rfl := hC.2.1
  obtain rfl := hC.2.2.1
  obtain rfl := hX.1
  obtain ⟨hB, hHX, hHM⟩ := hab_of hC hO hX hM
  have hn := hC.1
  have hm6 := hO.1
  have hv := hO.2.1
  have h16 : 2 ^ n ≤ 16 := Nat.pow_le_pow_right (n := 2) (by decide) hn
  rcases chkL N 0 (by omega) 0 (by decide) a1 with ⟨h1, h2⟩ | ⟨l, -, hl, rfl, h1, h2⟩
  · refine ⟨(-2, vx_bench_pages, vx_drawers_lying), (-2, vm_pages, vm_table, vm_keys), ?_, ?_, rfl, hI⟩
    · unfold f_X5_fewest; rw [show f_X5_isLength N a1 (0:Int32) = some 0 from h1, Option.bind_some, if_pos z00]
    · unfold f_X6_fewest; rw [h2, Option.bind_some, if_pos rfl]
  · obtain ⟨Q', A', K', g2⟩ := feM_loop hN hB hHM hl (fun z2_20 z3_20 zvt_pages_20 zvt_table_20 zvt_keys_20 => some (z2_20, (zvt_pages_20, zvt_table_20, zvt_keys_20))) (2 ^ n) N 0 vm_pages vm_table vm_keys (by omega) (by omega)
    have M6 : f_X6_fewest N (nI l) (nI n) vm_drops vm_tires vm_now vm_pages vm_table vm_keys = some (oI (fmN (tAB D F T I C l n) (2 ^ n)), (Q', A', K')) := by
      unfold f_X6_fewest
      rw [h2, Option.bind_some, if_neg n10]
      exact g2
    rcases fmN_spec (tAB D F T I C l n) (2 ^ n) with ⟨e, hno⟩ | ⟨b, e, hb, pb, hm⟩
    · obtain ⟨P', L', g1⟩ := feX_none hN hB hHX hl hno (fun z3_21 zvt_bench_pages_21 zvt_drawers_lying_21 => some ((-9:Int32), (zvt_bench_pages_21, zvt_drawers_lying_21))) 5 N 0 vx_bench_pages vx_drawers_lying (by omega) (by omega)
      have X5 : f_X5_fewest N (nI l) (nI n) vx_bench_drops vx_bench_from vx_bench_to vx_bench_tires vx_bench_copies vx_bench_pages vx_drawers_lying = some (-9, (P', L')) := by
        unfold f_X5_fewest f_X1_everybody
        rw [show f_X5_isLength N (nI l) (0:Int32) = some 1 from h1, Option.bind_some, if_neg n10, Option.bind_some, full4 n hn]
        exact g1
      rw [e] at M6
      exact ⟨_, _, X5, M6, rfl, hI⟩
    · have c1 := bcn4 b (by omega)
      obtain ⟨P', L', g1⟩ := feX_some hN hB hHX hl hb pb hm (fun z3_21 zvt_bench_pages_21 zvt_drawers_lying_21 => some ((-9:Int32), (zvt_bench_pages_21, zvt_drawers_lying_21))) (bcn b) N 0 vx_bench_pages vx_drawers_lying (by omega) (by omega)
      have X5 : f_X5_fewest N (nI l) (nI n) vx_bench_drops vx_bench_from vx_bench_to vx_bench_tires vx_bench_copies vx_bench_pages vx_drawers_lying = some (nI b, (P', L')) := by
        unfold f_X5_fewest f_X1_everybody
        rw [show f_X5_isLength N (nI l) (0:Int32) = some 1 from h1, Option.bind_some, if_neg n10, Option.bind_some, full4 n hn]
        exact g1
      rw [e] at M6
      exact ⟨_, _, X5, M6, rfl, hI⟩
set_option maxHeartbeats 4000000 in
theorem sim_blind (N : Nat) (hN : 200000 ≤ N) (vx_spoken : Int32) (vx_nowSeed : Int64) (vx_text_size : Int32) (vx_text_letters : Nat → Int32) (vx_bench_size : Int32) (vx_bench_drops : Nat → Int32) (vx_bench_from : Nat → Int32) (vx_bench_to : Nat → Int32) (vx_bench_tires : Nat → Int32) (vx_bench_copies : Nat → Int32) (vx_bench_pages : Nat → Int32) (vx_acts_size : Int32) (vx_acts_before : Nat → Int64) (vx_drawers_lying : Nat → Int64) (vx_told : Nat → Int32) (vx_kept : Nat → Int64) (vm_clerks : Int32) (vm_length : Int32) (vm_acts : Int32) (vm_next : Int32) (vm_seed : Int64) (vm_drops : Nat → Int32) (vm_tires : Nat → Int32) (vm_now : Nat → Int32) (vm_told : Nat → Int32) (vm_text : Nat → Int32) (vm_pages : Nat → Int32) (vm_row : Nat → Int32) (vm_table : Nat → Int32) (vm_keys : Nat → Int32) (vm_isKept : Nat → Int32) (vm_kept : Nat → Int32) (hI : Inv vx_spoken vx_nowSeed vx_text_size vx_text_letters vx_bench_size vx_bench_drops vx_bench_from vx_bench_to vx_bench_tires vx_bench_copies vx_acts_size vx_acts_before vx_told vx_kept vm_clerks vm_length vm_acts vm_next vm_seed vm_drops vm_tires vm_now vm_told vm_text vm_row vm_isKept vm_kept) (a1 : Int32) : ∃ (R : Int32 × (Nat → Int32) × (Nat → Int64)) (S : Int32 × (Nat → Int32) × (Nat → Int32) × (Nat → Int32)), f_X5_blind N a1 vx_bench_size vx_bench_drops vx_bench_from vx_bench_to vx_bench_tires vx_bench_copies vx_bench_pages vx_drawers_lying = some R ∧ f_X6_blind N a1 vm_clerks vm_drops vm_tires vm_now vm_pages vm_table vm_keys = some S ∧ R.1 = S.1 ∧ Inv vx_spoken vx_nowSeed vx_text_size vx_text_letters vx_bench_size vx_bench_drops vx_bench_from vx_bench_to vx_bench_tires vx_bench_copies vx_acts_size vx_acts_before vx_told vx_kept vm_clerks vm_length vm_acts vm_next vm_seed vm_drops vm_tires vm_now vm_told vm_text vm_row vm_isKept vm_kept := by
  obtain ⟨tn, n, m, v, la, nx, D, I, F, T, C, t, hT, hC, hO, hX, hM, hTo, hA, hKp, hs⟩ := id hI
  obtain rfl := hC.2.1
  obtain rfl := hC.2.2.1
  obtain rfl := hX.1
  obtain ⟨hB, hHX, hHM⟩ := hab_of hC hO hX hM
  have hn := hC.1
  have hm6 := hO.1
  have hv := hO.2.1
  rcases chkL N 0 (by omega) 0 (by decide) a1 with ⟨h1, h2⟩ | ⟨l, -, hl, rfl, h1, h2⟩
  · refine ⟨(-2, vx_bench_pages, vx_drawers_lying), (-2, vm_pages, vm_table, vm_keys), ?_, ?_, rfl, hI⟩
    · unfold f_X5_blind; rw [show f_X5_isLength N a1 (0:Int32) = some 0 from h1, Option.bind_some, if_pos z00]
    · unfold f_X6_blind; rw [h2, Option.bind_some, if_pos rfl]
  · obtain ⟨P', L', g1⟩ := blX vx_bench_pages vx_drawers_lying hN hB hHX hl
    obtain ⟨Q', A', K', g2⟩ := bbM9 vm_pages vm_table vm_keys hN hB hHM hl
    have X5 : f_X5_blind N (nI l) (nI n) vx_bench_drops vx_bench_from vx_bench_to vx_bench_tires vx_bench_copies vx_bench_pages vx_drawers_lying = some (nI (4 ^ l - dcN D F T I C l n (2 ^ n - 1) (4 ^ l)), (P', L')) := by
      unfold f_X5_blind
      rw [show f_X5_isLength N (nI l) (0:Int32) = some 1 from h1, Option.bind_some, if_neg n10, g1, Option.bind_some]
    have M6 : f_X6_blind N (nI l) (nI n) vm_drops vm_tires vm_now vm_pages vm_table vm_keys = some (nI (4 ^ l - dcN D F T I C l n (2 ^ n - 1) (4 ^ l)), (Q', A', K')) := by
      unfold f_X6_blind
      rw [h2, Option.bind_some, if_neg n10, g2, Option.bind_some]
    exact ⟨_, _, X5, M6, rfl, hI⟩
set_option maxHeartbeats 4000000 in
theorem sim_whom (N : Nat) (hN : 200000 ≤ N) (vx_spoken : Int32) (vx_nowSeed : Int64) (vx_text_size : Int32) (vx_text_letters : Nat → Int32) (vx_bench_size : Int32) (vx_bench_drops : Nat → Int32) (vx_bench_from : Nat → Int32) (vx_bench_to : Nat → Int32) (vx_bench_tires : Nat → Int32) (vx_bench_copies : Nat → Int32) (vx_bench_pages : Nat → Int32) (vx_acts_size : Int32) (vx_acts_before : Nat → Int64) (vx_drawers_lying : Nat → Int64) (vx_told : Nat → Int32) (vx_kept : Nat → Int64) (vm_clerks : Int32) (vm_length : Int32) (vm_acts : Int32) (vm_next : Int32) (vm_seed : Int64) (vm_drops : Nat → Int32) (vm_tires : Nat → Int32) (vm_now : Nat → Int32) (vm_told : Nat → Int32) (vm_text : Nat → Int32) (vm_pages : Nat → Int32) (vm_row : Nat → Int32) (vm_table : Nat → Int32) (vm_keys : Nat → Int32) (vm_isKept : Nat → Int32) (vm_kept : Nat → Int32) (hI : Inv vx_spoken vx_nowSeed vx_text_size vx_text_letters vx_bench_size vx_bench_drops vx_bench_from vx_bench_to vx_bench_tires vx_bench_copies vx_acts_size vx_acts_before vx_told vx_kept vm_clerks vm_length vm_acts vm_next vm_seed vm_drops vm_tires vm_now vm_told vm_text vm_row vm_isKept vm_kept) (a1 : Int32) : ∃ (R : Int32 × (Nat → Int32) × (Nat → Int32) × (Nat → Int64)) (S : Int32 × (Nat → Int32) × (Nat → Int32) × (Nat → Int32)), f_X5_whom N a1 vx_bench_size vx_bench_drops vx_bench_from vx_bench_to vx_bench_tires vx_bench_copies vx_bench_pages vx_drawers_lying = some R ∧ f_X6_whom N a1 vm_clerks vm_drops vm_tires vm_now vm_pages vm_table vm_keys = some S ∧ R.1 = S.1 ∧ Inv vx_spoken vx_nowSeed vx_text_size vx_text_letters vx_bench_size vx_bench_drops R.2.1 vx_bench_to vx_bench_tires vx_bench_copies vx_acts_size vx_acts_before vx_told vx_kept vm_clerks vm_length vm_acts vm_next vm_seed vm_drops vm_tires vm_now vm_told vm_text vm_row vm_isKept vm_kept := by
  obtain ⟨tn, n, m, v, la, nx, D, I, F, T, C, t, hT, hC, hO, hX, hM, hTo, hA, hKp, hs⟩ := id hI
  obtain rfl := hC.2.1
  obtain rfl := hC.2.2.1
  obtain rfl := hX.1
  obtain ⟨hB, hHX, hHM⟩ := hab_of hC hO hX hM
  have hn := hC.1
  have hm6 := hO.1
  have hv := hO.2.1
  rcases chkL N 0 (by omega) 0 (by decide) a1 with ⟨h1, h2⟩ | ⟨l, -, hl, rfl, h1, h2⟩
  · refine ⟨(-2, vx_bench_from, vx_bench_pages, vx_drawers_lying), (-2, vm_pages, vm_table, vm_keys), ?_, ?_, rfl, hI⟩
    · unfold f_X5_whom; rw [show f_X5_isLength N a1 (0:Int32) = some 0 from h1, Option.bind_some, if_pos z00]
    · unfold f_X6_whom; rw [h2, Option.bind_some, if_pos rfl]
  · obtain ⟨P', L', g1⟩ := blX vx_bench_pages vx_drawers_lying hN hB hHX hl
    obtain ⟨Q', A', K', g2⟩ := bbM9 vm_pages vm_table vm_keys hN hB hHM hl
    obtain ⟨r, P2, L2, Q2, A2, K2, w1, w2⟩ := wh_go hN hB hHX hHM hl n N 0 (4 ^ l - dcN D F T I C l n (2 ^ n - 1) (4 ^ l)) (-9) P' Q' A' K' L' (by omega) (by omega) (Nat.le_refl _)
    have X5 : f_X5_whom N (nI l) (nI n) vx_bench_drops vx_bench_from vx_bench_to vx_bench_tires vx_bench_copies vx_bench_pages vx_drawers_lying = some (r, (vx_bench_from, P2, L2)) := by
      unfold f_X5_whom
      rw [show f_X5_isLength N (nI l) (0:Int32) = some 1 from h1, Option.bind_some, if_neg n10, g1, Option.bind_some]
      exact w1
    have M6 : f_X6_whom N (nI l) (nI n) vm_drops vm_tires vm_now vm_pages vm_table vm_keys = some (r, (Q2, A2, K2)) := by
      unfold f_X6_whom
      rw [h2, Option.bind_some, if_neg n10, g2, Option.bind_some]
      exact w2
    exact ⟨_, _, X5, M6, rfl, hI⟩
set_option maxHeartbeats 4000000 in
theorem sim_lost (N : Nat) (hN : 200000 ≤ N) (vx_spoken : Int32) (vx_nowSeed : Int64) (vx_text_size : Int32) (vx_text_letters : Nat → Int32) (vx_bench_size : Int32) (vx_bench_drops : Nat → Int32) (vx_bench_from : Nat → Int32) (vx_bench_to : Nat → Int32) (vx_bench_tires : Nat → Int32) (vx_bench_copies : Nat → Int32) (vx_bench_pages : Nat → Int32) (vx_acts_size : Int32) (vx_acts_before : Nat → Int64) (vx_told : Nat → Int32) (vx_pagesOfTrial : Nat → Int32) (vx_kept : Nat → Int64) (vm_clerks : Int32) (vm_length : Int32) (vm_acts : Int32) (vm_next : Int32) (vm_seed : Int64) (vm_drops : Nat → Int32) (vm_tires : Nat → Int32) (vm_now : Nat → Int32) (vm_told : Nat → Int32) (vm_text : Nat → Int32) (vm_pages : Nat → Int32) (vm_row : Nat → Int32) (vm_own : Nat → Int32) (vm_isKept : Nat → Int32) (vm_kept : Nat → Int32) (hI : Inv vx_spoken vx_nowSeed vx_text_size vx_text_letters vx_bench_size vx_bench_drops vx_bench_from vx_bench_to vx_bench_tires vx_bench_copies vx_acts_size vx_acts_before vx_told vx_kept vm_clerks vm_length vm_acts vm_next vm_seed vm_drops vm_tires vm_now vm_told vm_text vm_row vm_isKept vm_kept) (a1 : Int32) (a2 : Int32) (hza2 : a2 = 0 ∨ a2 = 1) : ∃ (R : Int32 × (Nat → Int32) × (Nat → Int32)) (S : Int32 × (Nat → Int32) × (Nat → Int32)), f_X5_lost N a1 a2 vx_spoken vx_bench_size vx_bench_drops vx_bench_from vx_bench_to vx_bench_tires vx_bench_copies vx_bench_pages vx_pagesOfTrial = some R ∧ f_X6_lost N a1 a2 vm_clerks vm_drops vm_tires vm_now vm_pages vm_own = some S ∧ R.1 = S.1 ∧ Inv vx_spoken vx_nowSeed vx_text_size vx_text_letters vx_bench_size vx_bench_drops vx_bench_from vx_bench_to vx_bench_tires vx_bench_copies vx_acts_size vx_acts_before vx_told vx_kept vm_clerks vm_length vm_acts vm_next vm_seed vm_drops vm_tires vm_now vm_told vm_text vm_row vm_isKept vm_kept := by
  obtain ⟨tn, n, m, v, la, nx, D, I, F, T, C, t, hT, hC, hO, hX, hM, hTo, hA, hKp, hs⟩ := id hI
  obtain rfl := hC.2.1
  obtain rfl := hC.2.2.1
  obtain rfl := hX.1
  obtain ⟨hB, hHX, hHM⟩ := hab_of hC hO hX hM
  have hn := hC.1
  have hm6 := hO.1
  have hv := hO.2.1
  rcases chkI N a1 0 10 11 (by decide) (by decide) (by decide) with ⟨h2, h1⟩ | ⟨a, ha, rfl, h2⟩
  · refine ⟨(-2, vx_bench_pages, vx_pagesOfTrial), (-2, vm_pages, vm_own), ?_, ?_, rfl, hI⟩
    · unfold f_X5_lost
      rcases h1 with ⟨q1, -⟩ | ⟨q1, -, q3⟩
      · rw [if_pos q1]
      · rw [if_neg q1, if_neg (by rw [Int32.le_iff_toInt_le, show ((10:Int32)).toInt = 10 from by decide]; omega)]
    · unfold f_X6_lost; rw [h2, Option.bind_some, if_pos rfl]
  · by_cases m6 : m = 6
    · refine ⟨(-3, vx_bench_pages, vx_pagesOfTrial), (-3, vm_pages, vm_own), ?_, ?_, rfl, hI⟩
      · unfold f_X5_lost
        rw [if_neg (nI_pos (by omega)), if_pos (by rw [L10, le_n (by omega) (by omega)]; omega), wI hN hm6 hv, Option.bind_some, if_neg (by rw [m6]; decide)]
      · unfold f_X6_lost
        rw [h2, Option.bind_some, if_neg n10, hM.1, wO hm6 hv, Option.bind_some, if_pos (by rw [m6]; rfl)]
    · have hm5 : m ≤ 5 := by omega
      have hp := p4_le5 hm5
      have hw := wt_sum n (by omega) a ha
      have hle : nu D F T I C m v n a (2 ^ n) ≤ 10 ^ n := by
        rw [← hw]
        exact smn_mono (fun i => by split <;> omega) (2 ^ n)
      have h10 : 10 ^ n ≤ 10000 := Nat.pow_le_pow_right (n := 10) (by decide) hn
      have h10p : 0 < 10 ^ n := Nat.pow_pos (by decide)
      have hg : 0 < Nat.gcd (nu D F T I C m v n a (2 ^ n)) (10 ^ n) := Nat.gcd_pos_of_pos_right _ h10p
      have hgl : Nat.gcd (nu D F T I C m v n a (2 ^ n)) (10 ^ n) ≤ 10 ^ n := Nat.gcd_le_right _ h10p
      have h16 : 2 ^ n ≤ 16 := Nat.pow_le_pow_right (n := 2) (by decide) hn
      obtain ⟨P1, g1, hP1⟩ := tD vx_bench_pages hN hB hHX hm6 hv
      obtain ⟨M, P', k1, k2⟩ := msk_loop (N := N) (X1 := P1) (pt := vx_pagesOfTrial) hN hB hHX hm5 hv (fun c hc => by unfold va_cpy; rw [if_pos (by omega), show 0 + (c - 0) = c by omega]; exact hP1 c hc) (fun z2_49 z4_49 zvt_bench_pages_49 => some (z2_49, (zvt_bench_pages_49, (va_cpy P1 vx_pagesOfTrial 0 0 4)))) (4 ^ m) N 0 0 P1 (by omega) (by omega) ⟨by decide, fun s hs => ⟨fun z => by rw [Nat.zero_testBit] at z; exact Bool.noConfusion z, fun ⟨i, hi, _⟩ => by omega⟩⟩
      have X5 : f_X5_lost N (nI a) a2 (nI (4 ^ m + v)) (nI n) vx_bench_drops vx_bench_from vx_bench_to vx_bench_tires vx_bench_copies vx_bench_pages vx_pagesOfTrial = some (nI ((if a2 = 0 then 10 ^ n else nu D F T I C m v n a (2 ^ n)) / Nat.gcd (nu D F T I C m v n a (2 ^ n)) (10 ^ n)), (P', va_cpy P1 vx_pagesOfTrial 0 0 4)) := by
        unfold f_X5_lost f_X5_setsUnlikeTrial f_X1_everybody
        rw [if_neg (nI_pos (by omega)), if_pos (by rw [L10, le_n (by omega) (by omega)]; omega), wI hN hm6 hv, Option.bind_some, if_pos (by rw [L5, le_n (by omega) (by omega)]; omega), g1, Option.bind_some, Option.bind_some, eO (by omega), Option.bind_some, fO (by omega), Option.bind_some]
        have k1' := k1
        rw [show nI 0 = (0:Int32) from rfl, Nat.add_zero] at k1'
        rw [k1', Option.bind_some, Option.bind_some, full4 n hn]
        refine Eq.trans (loX_loop (m := m) (v := v) (M := M) (D := D) (F := F) (T := T) (I := I) (C := C) hN hn (show a ≤ 10 by omega) rfl k2 _ (2 ^ n) N 0 (by omega) (by omega)) ?_
        rw [L10, pw hN (by omega), Option.bind_some, fracX hN (by omega) (by omega) h10p hza2, Option.bind_some]
      obtain ⟨P2, O2, l1⟩ := loM_loop (md := vm_drops) (mi := vm_tires) (mn := vm_now) hN hB hHM hm5 hv hM.1 (show a ≤ 10 by omega) (fun z3_40 z4_40 z5_40 zvt_pages_40 zvt_own_40 => (f_X6_common N z3_40 z4_40).bind (fun x5 => if a2 = (0:Int32) then gN x5 (some ((z4_40 / x5), (zvt_pages_40, zvt_own_40))) else gN x5 (some ((z3_40 / x5), (zvt_pages_40, zvt_own_40))))) (2 ^ n) N 0 vm_pages vm_own (by omega) (by omega)
      have M6 : f_X6_lost N (nI a) a2 (nI n) vm_drops vm_tires vm_now vm_pages vm_own = some (nI ((if a2 = 0 then 10 ^ n else nu D F T I C m v n a (2 ^ n)) / Nat.gcd (nu D F T I C m v n a (2 ^ n)) (10 ^ n)), (P2, O2)) := by
        unfold f_X6_lost
        rw [h2, Option.bind_some, if_neg n10, hM.1, wO hm6 hv, Option.bind_some, if_neg (by rw [L6, eq_n (by omega) (by omega)]; exact m6)]
        refine Eq.trans l1 ?_
        rw [hw, fracM hN (by omega) (by omega), Option.bind_some, gN_n hg (by omega), gN_n hg (by omega), div_n (by omega) hg (by omega), div_n (by omega) hg (by omega)]
        by_cases z : a2 = 0
        · rw [if_pos z, if_pos z]
        · rw [if_neg z, if_neg z]
      exact ⟨_, _, X5, M6, rfl, hI⟩
set_option maxHeartbeats 4000000 in
theorem sim_seed (N : Nat) (hN : 200000 ≤ N) (vx_spoken : Int32) (vx_nowSeed : Int64) (vx_text_size : Int32) (vx_text_letters : Nat → Int32) (vx_bench_size : Int32) (vx_bench_drops : Nat → Int32) (vx_bench_from : Nat → Int32) (vx_bench_to : Nat → Int32) (vx_bench_tires : Nat → Int32) (vx_bench_copies : Nat → Int32) (vx_acts_size : Int32) (vx_acts_before : Nat → Int64) (vx_told : Nat → Int32) (vx_kept : Nat → Int64) (vm_clerks : Int32) (vm_length : Int32) (vm_acts : Int32) (vm_next : Int32) (vm_seed : Int64) (vm_drops : Nat → Int32) (vm_tires : Nat → Int32) (vm_now : Nat → Int32) (vm_told : Nat → Int32) (vm_text : Nat → Int32) (vm_row : Nat → Int32) (vm_isKept : Nat → Int32) (vm_kept : Nat → Int32) (hI : Inv vx_spoken vx_nowSeed vx_text_size vx_text_letters vx_bench_size vx_bench_drops vx_bench_from vx_bench_to vx_bench_tires vx_bench_copies vx_acts_size vx_acts_before vx_told vx_kept vm_clerks vm_length vm_acts vm_next vm_seed vm_drops vm_tires vm_now vm_told vm_text vm_row vm_isKept vm_kept) (a1 : Int64) : ∃ (R : Int64 × Int64) (S : Int64 × Int64), f_X5_seed N a1 vx_nowSeed = some R ∧ f_X6_seed N a1 vm_seed = some S ∧ R.1 = S.1 ∧ Inv vx_spoken R.2 vx_text_size vx_text_letters vx_bench_size vx_bench_drops vx_bench_from vx_bench_to vx_bench_tires vx_bench_copies vx_acts_size vx_acts_before vx_told vx_kept vm_clerks vm_length vm_acts vm_next S.2 vm_drops vm_tires vm_now vm_told vm_text vm_row vm_isKept vm_kept := by
  obtain ⟨tn, n, m, v, la, nx, D, I, F, T, C, t, hT, hC, hO, hX, hM, hTo, hA, hKp, hs⟩ := hI
  exact ⟨_, _, rfl, rfl, hs, tn, n, m, v, la, nx, D, I, F, T, C, t, hT, hC, hO, hX, hM, hTo, hA, hKp, rfl⟩
set_option maxHeartbeats 4000000 in
theorem sim_days (N : Nat) (hN : 200000 ≤ N) (vx_spoken : Int32) (vx_nowSeed : Int64) (vx_text_size : Int32) (vx_text_letters : Nat → Int32) (vx_bench_size : Int32) (vx_bench_drops : Nat → Int32) (vx_bench_from : Nat → Int32) (vx_bench_to : Nat → Int32) (vx_bench_tires : Nat → Int32) (vx_bench_copies : Nat → Int32) (vx_bench_pages : Nat → Int32) (vx_acts_size : Int32) (vx_acts_before : Nat → Int64) (vx_told : Nat → Int32) (vx_kept : Nat → Int64) (vm_clerks : Int32) (vm_length : Int32) (vm_acts : Int32) (vm_next : Int32) (vm_seed : Int64) (vm_drops : Nat → Int32) (vm_tires : Nat → Int32) (vm_now : Nat → Int32) (vm_told : Nat → Int32) (vm_text : Nat → Int32) (vm_pages : Nat → Int32) (vm_row : Nat → Int32) (vm_isKept : Nat → Int32) (vm_kept : Nat → Int32) (hI : Inv vx_spoken vx_nowSeed vx_text_size vx_text_letters vx_bench_size vx_bench_drops vx_bench_from vx_bench_to vx_bench_tires vx_bench_copies vx_acts_size vx_acts_before vx_told vx_kept vm_clerks vm_length vm_acts vm_next vm_seed vm_drops vm_tires vm_now vm_told vm_text vm_row vm_isKept vm_kept) (a1 : Int32) (a2 : Int32) : ∃ (R : Int32 × Int64 × (Nat → Int32)) (S : Int32 × Int64 × (Nat → Int32)), f_X5_days N a1 a2 vx_nowSeed vx_bench_size vx_bench_drops vx_bench_from vx_bench_to vx_bench_tires vx_bench_copies vx_bench_pages = some R ∧ f_X6_days N a1 a2 vm_clerks vm_seed vm_drops vm_tires vm_now vm_pages = some S ∧ R.1 = S.1 ∧ Inv vx_spoken R.2.1 vx_text_size vx_text_letters vx_bench_size vx_bench_drops vx_bench_from vx_bench_to vx_bench_tires vx_bench_copies vx_acts_size vx_acts_before vx_told vx_kept vm_clerks vm_length vm_acts vm_next S.2.1 vm_drops vm_tires vm_now vm_told vm_text vm_row vm_isKept vm_kept := by
  obtain ⟨tn, n, m, v, la, nx, D, I, F, T, C, t, hT, hC, hO, hX, hM, hTo, hA, hKp, hs⟩ := id hI
  obtain rfl := hC.2.1
  obtain rfl := hC.2.2.1
  obtain rfl := hX.1
  obtain ⟨hB, hHX, hHM⟩ := hab_of hC hO hX hM
  have hn := hC.1
  have hm6 := hO.1
  have hv := hO.2.1
  subst hs
  have bad : f_X5_days N a1 a2 vx_nowSeed (nI n) vx_bench_drops vx_bench_from vx_bench_to vx_bench_tires vx_bench_copies vx_bench_pages = some (-2, vx_nowSeed, vx_bench_pages) → f_X6_days N a1 a2 (nI n) vx_nowSeed vm_drops vm_tires vm_now vm_pages = some (-2, vx_nowSeed, vm_pages) → ∃ (R : Int32 × Int64 × (Nat → Int32)) (S : Int32 × Int64 × (Nat → Int32)), f_X5_days N a1 a2 vx_nowSeed (nI n) vx_bench_drops vx_bench_from vx_bench_to vx_bench_tires vx_bench_copies vx_bench_pages = some R ∧ f_X6_days N a1 a2 (nI n) vx_nowSeed vm_drops vm_tires vm_now vm_pages = some S ∧ R.1 = S.1 ∧ Inv (nI (4 ^ m + v)) R.2.1 vx_text_size vx_text_letters (nI n) vx_bench_drops vx_bench_from vx_bench_to vx_bench_tires vx_bench_copies vx_acts_size vx_acts_before vx_told vx_kept (nI n) vm_length vm_acts vm_next S.2.1 vm_drops vm_tires vm_now vm_told vm_text vm_row vm_isKept vm_kept := fun e1 e2 => ⟨_, _, e1, e2, rfl, hI⟩
  have i1 := in_b N a1 1 30 1 30 (by decide) (by decide)
  have i2 := in_b N a2 1 6 1 6 (by decide) (by decide)
  have t1 : (a1 < (1:Int32)) ↔ a1.toInt < 1 := by rw [Int32.lt_iff_toInt_lt, show ((1:Int32)).toInt = 1 from by decide]
  have t2 : ((30:Int32) < a1) ↔ 30 < a1.toInt := by rw [Int32.lt_iff_toInt_lt, show ((30:Int32)).toInt = 30 from by decide]
  have t3 : (a2 < (1:Int32)) ↔ a2.toInt < 1 := by rw [Int32.lt_iff_toInt_lt, show ((1:Int32)).toInt = 1 from by decide]
  have t4 : (a2 ≤ (6:Int32)) ↔ a2.toInt ≤ 6 := by rw [Int32.le_iff_toInt_le, show ((6:Int32)).toInt = 6 from by decide]
  by_cases c1 : 1 ≤ a1.toInt ∧ a1.toInt ≤ 30
  · rw [if_pos c1] at i1
    have x1 : ¬ a1 < (1:Int32) := by rw [t1]; omega
    have x2 : ¬ (30:Int32) < a1 := by rw [t2]; omega
    by_cases c2 : 1 ≤ a2.toInt ∧ a2.toInt ≤ 6
    · rw [if_pos c2] at i2
      have x3 : ¬ a2 < (1:Int32) := by rw [t3]; omega
      have x4 : a2 ≤ (6:Int32) := by rw [t4]; omega
      obtain ⟨q, hq, e1⟩ : ∃ q, q < 31 ∧ a1 = nI q := by
        rcases a_cases a1 31 (by decide) with ⟨-, h⟩ | ⟨-, -, h⟩ | h
        · omega
        · omega
        · exact h
      obtain ⟨l, hl, e2⟩ : ∃ l, l < 7 ∧ a2 = nI l := by
        rcases a_cases a2 7 (by decide) with ⟨-, h⟩ | ⟨-, -, h⟩ | h
        · omega
        · omega
        · exact h
      subst e1; subst e2
      obtain ⟨P1, g1⟩ := dyX_loop (s := vx_nowSeed) hN hB hHX (show l ≤ 6 by omega) (show q ≤ 30 by omega) (fun z3_30 z4_30 zvt_nowSeed_30 zvt_bench_pages_30 => some (z3_30, (zvt_nowSeed_30, zvt_bench_pages_30))) q N 0 vx_bench_pages (by omega) (by omega)
      obtain ⟨P2, g2⟩ := dyM_loop (s := vx_nowSeed) hN hB hHM (show l ≤ 6 by omega) (show q ≤ 30 by omega) (fun z3_32 z4_32 zvt_seed_32 zvt_pages_32 => some (z3_32, (zvt_seed_32, zvt_pages_32))) q N 0 vm_pages (by omega) (by omega)
      have e5 : f_X5_days N (nI q) (nI l) vx_nowSeed (nI n) vx_bench_drops vx_bench_from vx_bench_to vx_bench_tires vx_bench_copies vx_bench_pages = some (nI (dtot n D F T I C l vx_nowSeed q), dsd l vx_nowSeed q, P1) := by
        unfold f_X5_days
        rw [if_neg x1, if_neg x2, if_neg x3, if_pos x4]
        exact g1
      have e6 : f_X6_days N (nI q) (nI l) (nI n) vx_nowSeed vm_drops vm_tires vm_now vm_pages = some (nI (dtot n D F T I C l vx_nowSeed q), dsd l vx_nowSeed q, P2) := by
        unfold f_X6_days
        rw [i1, Option.bind_some, if_neg n10, i2, Option.bind_some, if_neg n10]
        exact g2
      exact ⟨_, _, e5, e6, rfl, tn, n, m, v, la, nx, D, I, F, T, C, t, hT, hC, hO, hX, hM, hTo, hA, hKp, rfl⟩
    · rw [if_neg c2] at i2
      refine bad ?_ ?_
      · unfold f_X5_days
        rw [if_neg x1, if_neg x2]
        by_cases y : a2 < (1:Int32)
        · rw [if_pos y]
        · rw [if_neg y, if_neg (by rw [t4]; rw [t3] at y; omega)]
      · unfold f_X6_days
        rw [i1, Option.bind_some, if_neg n10, i2, Option.bind_some, if_pos z00]
  · rw [if_neg c1] at i1
    refine bad ?_ ?_
    · unfold f_X5_days
      by_cases y : a1 < (1:Int32)
      · rw [if_pos y]
      · rw [if_neg y, if_pos (by rw [t2]; rw [t1] at y; omega)]
    · unfold f_X6_days
      rw [i1, Option.bind_some, if_pos z00]
set_option maxHeartbeats 4000000 in
theorem sim_keep (N : Nat) (hN : 200000 ≤ N) (vx_spoken : Int32) (vx_nowSeed : Int64) (vx_text_size : Int32) (vx_text_letters : Nat → Int32) (vx_bench_size : Int32) (vx_bench_drops : Nat → Int32) (vx_bench_from : Nat → Int32) (vx_bench_to : Nat → Int32) (vx_bench_tires : Nat → Int32) (vx_bench_copies : Nat → Int32) (vx_acts_size : Int32) (vx_acts_before : Nat → Int64) (vx_told : Nat → Int32) (vx_kept : Nat → Int64) (vm_clerks : Int32) (vm_length : Int32) (vm_acts : Int32) (vm_next : Int32) (vm_seed : Int64) (vm_drops : Nat → Int32) (vm_tires : Nat → Int32) (vm_now : Nat → Int32) (vm_told : Nat → Int32) (vm_text : Nat → Int32) (vm_row : Nat → Int32) (vm_isKept : Nat → Int32) (vm_kept : Nat → Int32) (hI : Inv vx_spoken vx_nowSeed vx_text_size vx_text_letters vx_bench_size vx_bench_drops vx_bench_from vx_bench_to vx_bench_tires vx_bench_copies vx_acts_size vx_acts_before vx_told vx_kept vm_clerks vm_length vm_acts vm_next vm_seed vm_drops vm_tires vm_now vm_told vm_text vm_row vm_isKept vm_kept) (a1 : Int32) : ∃ (R : Int32 × (Nat → Int64)) (S : Int32 × (Nat → Int32) × (Nat → Int32)), f_X5_keep N a1 vx_spoken vx_bench_from vx_bench_to vx_bench_copies vx_kept = some R ∧ f_X6_keep N a1 vm_now vm_isKept vm_kept = some S ∧ R.1 = S.1 ∧ Inv vx_spoken vx_nowSeed vx_text_size vx_text_letters vx_bench_size vx_bench_drops vx_bench_from vx_bench_to vx_bench_tires vx_bench_copies vx_acts_size vx_acts_before vx_told R.2 vm_clerks vm_length vm_acts vm_next vm_seed vm_drops vm_tires vm_now vm_told vm_text vm_row S.2.1 S.2.2 := by
  obtain ⟨tn, n, m, v, la, nx, D, I, F, T, C, t, hT, hC, hO, hX, hM, hTo, hA, hKp, hs⟩ := id hI
  obtain rfl := hC.2.1
  obtain rfl := hC.2.2.1
  obtain rfl := hX.1
  obtain ⟨hB, hHX, hHM⟩ := hab_of hC hO hX hM
  have hn := hC.1
  have hm6 := hO.1
  have hv := hO.2.1
  rcases chkI N a1 0 1 2 (by decide) (by decide) (by decide) with ⟨hi, h3⟩ | ⟨s, hs2, rfl, hi⟩
  · have g5 : f_X5_keep N a1 (nI (4 ^ m + v)) vx_bench_from vx_bench_to vx_bench_copies vx_kept = some ((-1:Int32), vx_kept) := by
      unfold f_X5_keep
      rcases h3 with ⟨q, -⟩ | ⟨q, r, r2⟩
      · rw [if_pos q]
      · rw [if_neg q, if_neg (by rw [Int32.lt_iff_toInt_lt, show ((2:Int32)).toInt = 2 from by decide]; omega)]
    have g6 : f_X6_keep N a1 vm_now vm_isKept vm_kept = some ((-1:Int32), (vm_isKept, vm_kept)) := by
      unfold f_X6_keep
      rw [hi, Option.bind_some, if_pos z00]
    exact ⟨_, _, g5, g6, rfl, hI⟩
  · obtain ⟨R', k1, k2, k3⟩ := ke_loop (N := N) (now := vm_now) hs2 (fun z2_21 zvt_kept_21 => (f_X6_wordsOf N (vm_now 0)).bind (fun x4 => some (x4, ((upd vm_isKept (nI s).toNatClampNeg (1:Int32)), zvt_kept_21)))) 13 N 0 vm_kept (by omega) (by omega)
    have g5 : f_X5_keep N (nI s) (nI (4 ^ m + v)) vx_bench_from vx_bench_to vx_bench_copies vx_kept = some (nI m, vp_updL vx_kept s (lN (pkN m v F T C))) := by
      unfold f_X5_keep
      rw [if_neg (nI_pos (by omega)), if_pos (by rw [L2, lt_n (by omega) (by omega)]; exact hs2), sN hN hO hX.2, Option.bind_some, gI_n (by omega) (by omega), wI hN hm6 hv, Option.bind_some, cl_n (by omega)]
    have g6 : f_X6_keep N (nI s) vm_now vm_isKept vm_kept = some (nI m, (upd vm_isKept s 1, R')) := by
      unfold f_X6_keep
      rw [hi, Option.bind_some, if_neg n10, gI_n (by omega) (by omega), L0, k1, hM.1, wO hm6 hv, Option.bind_some, cl_n (by omega)]
    have hk : KeptR n (vp_updL vx_kept s (lN (pkN m v F T C))) (upd vm_isKept s 1) R' := by
      intro j hj
      by_cases e : j = s
      · subst e
        right
        rw [up_s, upL_s]
        exact ⟨rfl, OldR_cong hn ⟨m, v, F, T, C, hO, rfl, hM⟩ (fun k hk => k2 k (by omega) hk)⟩
      · rw [up_n e, upL_n e]
        rcases hKp j hj with q | ⟨q1, q2⟩
        · exact Or.inl q
        · exact Or.inr ⟨q1, OldR_cong hn q2 (fun k hk => k3 _ (by omega))⟩
    exact ⟨_, _, g5, g6, rfl, tn, n, m, v, la, nx, D, I, F, T, C, t, hT, hC, hO, hX, hM, hTo, hA, hk, hs⟩
set_option maxHeartbeats 4000000 in
theorem sim_again (N : Nat) (hN : 200000 ≤ N) (vx_spoken : Int32) (vx_nowSeed : Int64) (vx_text_size : Int32) (vx_text_letters : Nat → Int32) (vx_bench_size : Int32) (vx_bench_drops : Nat → Int32) (vx_bench_from : Nat → Int32) (vx_bench_to : Nat → Int32) (vx_bench_tires : Nat → Int32) (vx_bench_copies : Nat → Int32) (vx_acts_size : Int32) (vx_acts_before : Nat → Int64) (vx_told : Nat → Int32) (vx_kept : Nat → Int64) (vm_clerks : Int32) (vm_length : Int32) (vm_acts : Int32) (vm_next : Int32) (vm_seed : Int64) (vm_drops : Nat → Int32) (vm_tires : Nat → Int32) (vm_now : Nat → Int32) (vm_told : Nat → Int32) (vm_text : Nat → Int32) (vm_row : Nat → Int32) (vm_isKept : Nat → Int32) (vm_kept : Nat → Int32) (hI : Inv vx_spoken vx_nowSeed vx_text_size vx_text_letters vx_bench_size vx_bench_drops vx_bench_from vx_bench_to vx_bench_tires vx_bench_copies vx_acts_size vx_acts_before vx_told vx_kept vm_clerks vm_length vm_acts vm_next vm_seed vm_drops vm_tires vm_now vm_told vm_text vm_row vm_isKept vm_kept) (a1 : Int32) : ∃ (R : Int32 × Int32 × (Nat → Int32) × (Nat → Int32) × (Nat → Int32) × Int32) (S : Int32 × Int32 × (Nat → Int32)), f_X5_again N a1 vx_spoken vx_bench_from vx_bench_to vx_bench_copies vx_acts_size vx_kept = some R ∧ f_X6_again N a1 vm_acts vm_now vm_isKept vm_kept = some S ∧ R.1 = S.1 ∧ Inv R.2.1 vx_nowSeed vx_text_size vx_text_letters vx_bench_size vx_bench_drops R.2.2.1 R.2.2.2.1 vx_bench_tires R.2.2.2.2.1 R.2.2.2.2.2 vx_acts_before vx_told vx_kept vm_clerks vm_length S.2.1 vm_next vm_seed vm_drops vm_tires S.2.2 vm_told vm_text vm_row vm_isKept vm_kept := by
  obtain ⟨tn, n, m, v, la, nx, D, I, F, T, C, t, hT, hC, hO, hX, hM, hTo, hA, hKp, hs⟩ := id hI
  obtain rfl := hC.2.1
  obtain rfl := hC.2.2.1
  obtain rfl := hX.1
  obtain ⟨hB, hHX, hHM⟩ := hab_of hC hO hX hM
  have hn := hC.1
  have hm6 := hO.1
  have hv := hO.2.1
  rcases chkI N a1 0 1 2 (by decide) (by decide) (by decide) with ⟨hi, h3⟩ | ⟨s, hs2, rfl, hi⟩
  · have g5 : f_X5_again N a1 (nI (4 ^ m + v)) vx_bench_from vx_bench_to vx_bench_copies vx_acts_size vx_kept = some ((-1:Int32), (nI (4 ^ m + v), vx_bench_from, vx_bench_to, vx_bench_copies, vx_acts_size)) := by
      unfold f_X5_again
      rcases h3 with ⟨q, -⟩ | ⟨q, r, r2⟩
      · rw [if_pos q]
      · rw [if_neg q, if_neg (by rw [Int32.lt_iff_toInt_lt, show ((2:Int32)).toInt = 2 from by decide]; omega)]
    have g6 : f_X6_again N a1 vm_acts vm_now vm_isKept vm_kept = some ((-1:Int32), (vm_acts, vm_now)) := by
      unfold f_X6_again
      rw [hi, Option.bind_some, if_pos z00]
    exact ⟨_, _, g5, g6, rfl, hI⟩
  · rcases hKp s hs2 with ⟨q1, q2⟩ | ⟨q1, m', v', F', T', C', o1, o2, o3⟩
    · have g5 : f_X5_again N (nI s) (nI (4 ^ m + v)) vx_bench_from vx_bench_to vx_bench_copies vx_acts_size vx_kept = some ((-3:Int32), (nI (4 ^ m + v), vx_bench_from, vx_bench_to, vx_bench_copies, vx_acts_size)) := by
        unfold f_X5_again
        rw [if_neg (nI_pos (by omega)), if_pos (by rw [L2, lt_n (by omega) (by omega)]; exact hs2), gI_n (by omega) (by omega), cl_n (by omega), if_pos ((lg_cmp_eq _ _).mpr q1)]
      have g6 : f_X6_again N (nI s) vm_acts vm_now vm_isKept vm_kept = some ((-3:Int32), (vm_acts, vm_now)) := by
        unfold f_X6_again
        rw [hi, Option.bind_some, if_neg n10, gI_n (by omega) (by omega), cl_n (by omega), if_pos q2]
      exact ⟨_, _, g5, g6, rfl, hI⟩
    · obtain ⟨P, Q, R, gb1, gb2⟩ := gB (N := N) (nI (4 ^ m + v)) vx_bench_from vx_bench_to vx_bench_copies hN o1
      obtain ⟨P', u1, u2⟩ := ag_loop (N := N) (q := vm_kept) hs2 (fun z2_26 zvt_now_26 => (f_X6_wordsOf N (zvt_now_26 0)).bind (fun x5 => some (x5, ((0:Int32), zvt_now_26)))) 13 N 0 vm_now (by omega) (by omega) (fun k hk => by omega)
      have nz : ¬ (lg_cmp (vx_kept s) (0:Int64)) = (0:Int32) := by
        rw [lg_cmp_eq, o2, show (0:Int64) = lN 0 from rfl, pk_lEQ (pk_lt' o1).1 (by decide)]
        have := (pk_lt' o1).2
        omega
      have nm1 : NowM n m' v' F' T' C' P' := by
        refine ⟨by rw [u2 0 (by omega)]; exact o3.1, fun c hc => ?_⟩
        rw [u2 _ (by omega), u2 _ (by omega), u2 _ (by omega)]
        exact o3.2 c hc
      have g5 : f_X5_again N (nI s) (nI (4 ^ m + v)) vx_bench_from vx_bench_to vx_bench_copies vx_acts_size vx_kept = some (nI m', (nI (4 ^ m' + v'), P, Q, R, (0:Int32))) := by
        unfold f_X5_again
        rw [if_neg (nI_pos (by omega)), if_pos (by rw [L2, lt_n (by omega) (by omega)]; exact hs2), gI_n (by omega) (by omega), cl_n (by omega), if_neg nz, gI_n (by omega) (by omega), o2, gb1, Option.bind_some]
        simp only
        rw [wI hN o1.1 o1.2.1, Option.bind_some]
      have g6 : f_X6_again N (nI s) vm_acts vm_now vm_isKept vm_kept = some (nI m', ((0:Int32), P')) := by
        unfold f_X6_again
        rw [hi, Option.bind_some, if_neg n10, gI_n (by omega) (by omega), cl_n (by omega), if_neg (show ¬ vm_isKept s = 0 by rw [q1]; decide), show (0:Int32) = nI 0 from rfl]
        rw [show (0:Int32) = nI 0 from rfl] at u1
        rw [u1, nm1.1, wO o1.1 o1.2.1, Option.bind_some]
      exact ⟨_, _, g5, g6, rfl, tn, n, m', v', 0, nx, D, I, F', T', C', t, hT, hC, o1, gb2, nm1, hTo, ⟨by omega, hA.2.1, rfl, rfl, hA.2.2.2.2.1, fun i hi => by omega⟩, hKp, hs⟩
set_option maxHeartbeats 4000000 in
theorem sim_count (N : Nat) (hN : 200000 ≤ N) (vx_spoken : Int32) (vx_nowSeed : Int64) (vx_text_size : Int32) (vx_text_letters : Nat → Int32) (vx_bench_size : Int32) (vx_bench_drops : Nat → Int32) (vx_bench_from : Nat → Int32) (vx_bench_to : Nat → Int32) (vx_bench_tires : Nat → Int32) (vx_bench_copies : Nat → Int32) (vx_bench_pages : Nat → Int32) (vx_acts_size : Int32) (vx_acts_before : Nat → Int64) (vx_told : Nat → Int32) (vx_kept : Nat → Int64) (vm_clerks : Int32) (vm_length : Int32) (vm_acts : Int32) (vm_next : Int32) (vm_seed : Int64) (vm_drops : Nat → Int32) (vm_tires : Nat → Int32) (vm_now : Nat → Int32) (vm_told : Nat → Int32) (vm_text : Nat → Int32) (vm_pages : Nat → Int32) (vm_row : Nat → Int32) (vm_isKept : Nat → Int32) (vm_kept : Nat → Int32) (hI : Inv vx_spoken vx_nowSeed vx_text_size vx_text_letters vx_bench_size vx_bench_drops vx_bench_from vx_bench_to vx_bench_tires vx_bench_copies vx_acts_size vx_acts_before vx_told vx_kept vm_clerks vm_length vm_acts vm_next vm_seed vm_drops vm_tires vm_now vm_told vm_text vm_row vm_isKept vm_kept) (a1 : Int32) : ∃ (R : Int32 × (Nat → Int32)) (S : Int32 × (Nat → Int32)), f_X5_count N a1 vx_spoken vx_text_size vx_bench_size vx_bench_drops vx_bench_from vx_bench_to vx_bench_tires vx_bench_copies vx_bench_pages vx_acts_size vx_told = some R ∧ f_X6_count N a1 vm_clerks vm_length vm_acts vm_drops vm_tires vm_now vm_told vm_pages = some S ∧ R.1 = S.1 ∧ Inv vx_spoken vx_nowSeed vx_text_size vx_text_letters vx_bench_size vx_bench_drops vx_bench_from vx_bench_to vx_bench_tires vx_bench_copies vx_acts_size vx_acts_before vx_told vx_kept vm_clerks vm_length vm_acts vm_next vm_seed vm_drops vm_tires vm_now vm_told vm_text vm_row vm_isKept vm_kept := by
  obtain ⟨tn, n, m, v, la, nx, D, I, F, T, C, t, hT, hC, hO, hX, hM, hTo, hA, hKp, hs⟩ := id hI
  obtain rfl := hC.2.1
  obtain rfl := hC.2.2.1
  obtain rfl := hX.1
  obtain ⟨hB, hHX, hHM⟩ := hab_of hC hO hX hM
  have hn := hC.1
  have hm6 := hO.1
  have hv := hO.2.1
  obtain ⟨P1, q1, q2⟩ := tD vx_bench_pages hN hB hHX hm6 hv
  obtain ⟨P2, q3, q4⟩ := lP9 vm_pages hN hB hHM hm6 hv
  have M6 : f_X6_count N a1 (nI n) vm_length vm_acts vm_drops vm_tires vm_now vm_told vm_pages = (if a1 = (0:Int32) then some (vm_length, P2) else if a1 = (1:Int32) then some (nI n, P2) else if a1 = (2:Int32) then some (nI m, P2) else if a1 = (3:Int32) then some (vm_acts, P2) else if a1 = (4:Int32) then some (nI (bts t n), P2) else if a1 = (5:Int32) then some (nI (smw (pgl D F T I C m v n) n), P2) else some ((-2:Int32), P2)) := by
    unfold f_X6_count
    refine Eq.trans (co_loop (N := N) hn hTo _ n N 0 (by omega) (by omega)) ?_
    rw [hM.1, q3, Option.bind_some, wO hm6 hv, Option.bind_some, aw hN hB hm6 hv q4, Option.bind_some]
  have X5 : ∃ P, f_X5_count N a1 (nI (4 ^ m + v)) vx_text_size (nI n) vx_bench_drops vx_bench_from vx_bench_to vx_bench_tires vx_bench_copies vx_bench_pages vx_acts_size vx_told = (if a1 = (0:Int32) then some (vx_text_size, P) else if a1 = (1:Int32) then some (nI n, P) else if a1 = (2:Int32) then some (nI m, P) else if a1 = (3:Int32) then some (vx_acts_size, P) else if a1 = (4:Int32) then some (nI (bts t n), P) else if a1 = (5:Int32) then some (nI (smw (pgl D F T I C m v n) n), P) else some ((-2:Int32), P)) := by
    have s1 : f_X5_setOfTold N (nI n) vx_told = some (nI (bts t n)) := by
      unfold f_X5_setOfTold
      exact soT_loop (N := N) hn hTo (fun z1_4 z2_4 => some z1_4) n N 0 (by omega) (by omega)
    unfold f_X5_count
    rw [wI hN hm6 hv, Option.bind_some, s1, Option.bind_some, q1, Option.bind_some, wop hN hB hm6 hv q2, Option.bind_some]
    by_cases z : a1 = 5
    · subst z
      exact ⟨P1, by simp⟩
    · refine ⟨vx_bench_pages, ?_⟩
      simp only [if_neg z]
  obtain ⟨P, X5⟩ := X5
  rw [M6, X5, hT.2.1, hT.2.2.1, hA.2.2.1, hA.2.2.2.1]
  have hI2 := hI
  rw [hT.2.1, hT.2.2.1, hA.2.2.1, hA.2.2.2.1] at hI2
  by_cases z0 : a1 = 0
  · rw [if_pos z0, if_pos z0]; exact ⟨_, _, rfl, rfl, rfl, hI2⟩
  rw [if_neg z0, if_neg z0]
  by_cases z1 : a1 = 1
  · rw [if_pos z1, if_pos z1]; exact ⟨_, _, rfl, rfl, rfl, hI2⟩
  rw [if_neg z1, if_neg z1]
  by_cases z2 : a1 = 2
  · rw [if_pos z2, if_pos z2]; exact ⟨_, _, rfl, rfl, rfl, hI2⟩
  rw [if_neg z2, if_neg z2]
  by_cases z3 : a1 = 3
  · rw [if_pos z3, if_pos z3]; exact ⟨_, _, rfl, rfl, rfl, hI2⟩
  rw [if_neg z3, if_neg z3]
  by_cases z4 : a1 = 4
  · rw [if_pos z4, if_pos z4]; exact ⟨_, _, rfl, rfl, rfl, hI2⟩
  rw [if_neg z4, if_neg z4]
  by_cases z5 : a1 = 5
  · rw [if_pos z5, if_pos z5]; exact ⟨_, _, rfl, rfl, rfl, hI2⟩
  rw [if_neg z5, if_neg z5]
  exact ⟨_, _, rfl, rfl, rfl, hI2⟩
