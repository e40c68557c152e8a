/-! open addressing, abstractly -/
def Tab {K : Type} (M : Nat) (H : K → Nat) (B : Nat → Option K) (S : K → Prop) : Prop :=
  (∀ x k, x < M → B x = some k → S k) ∧ (∀ k, S k → ∃ d, d < M ∧ B ((H k + d) % M) = some k ∧ ∀ d', d' < d → B ((H k + d') % M) ≠ none)
theorem least_of {P : Nat → Prop} : ∀ d, P d → ∃ e, e ≤ d ∧ P e ∧ ∀ e', e' < e → ¬ P e' := by
  intro d
  induction d using Nat.strongRecOn with
  | _ d ih =>
    intro h
    by_cases q : ∃ e, e < d ∧ P e
    · obtain ⟨e, h1, h2⟩ := q
      obtain ⟨f, f1, f2, f3⟩ := ih e h1 h2
      exact ⟨f, by omega, f2, f3⟩
    · exact ⟨d, Nat.le_refl d, h, fun e' he hp => q ⟨e', he, hp⟩⟩
theorem tab_find {K : Type} {M : Nat} {H : K → Nat} {B : Nat → Option K} {S : K → Prop} (hT : Tab M H B S) (hfree : ∃ x, x < M ∧ B x = none) (k : K) : ∃ d, d < M ∧ (∀ d', d' < d → B ((H k + d') % M) ≠ none ∧ B ((H k + d') % M) ≠ some k) ∧ ((S k ∧ B ((H k + d) % M) = some k) ∨ (¬ S k ∧ B ((H k + d) % M) = none)) := by
  obtain ⟨x, hx, hb⟩ := hfree
  have hM : 0 < M := by omega
  have hr : H k % M < M := Nat.mod_lt _ hM
  obtain ⟨d0, hd0, e0⟩ : ∃ d0, d0 < M ∧ (H k + d0) % M = x := by
    by_cases q : H k % M ≤ x
    · refine ⟨x - H k % M, by omega, ?_⟩
      rw [Nat.add_mod, Nat.mod_eq_of_lt (show x - H k % M < M by omega), show H k % M + (x - H k % M) = x by omega, Nat.mod_eq_of_lt hx]
    · refine ⟨x + M - H k % M, by omega, ?_⟩
      rw [Nat.add_mod, Nat.mod_eq_of_lt (show x + M - H k % M < M by omega), show H k % M + (x + M - H k % M) = x + M by omega, Nat.add_mod_right, Nat.mod_eq_of_lt hx]
  obtain ⟨d, h1, h2, h3⟩ := least_of (P := fun d => B ((H k + d) % M) = none ∨ B ((H k + d) % M) = some k) d0 (Or.inl (by rw [e0]; exact hb))
  refine ⟨d, by omega, fun d' hd' => ⟨fun z => h3 d' hd' (Or.inl z), fun z => h3 d' hd' (Or.inr z)⟩, ?_⟩
  rcases h2 with z | z
  · right
    refine ⟨fun s => ?_, z⟩
    obtain ⟨d1, k1, k2, k3⟩ := hT.2 k s
    rcases Nat.lt_trichotomy d1 d with w | w | w
    · exact h3 d1 w (Or.inr k2)
    · rw [w, z] at k2; cases k2
    · exact k3 d w z
  · left
    exact ⟨hT.1 _ k (Nat.mod_lt _ hM) z, z⟩
theorem tab_put {K : Type} {M d : Nat} {H : K → Nat} {B : Nat → Option K} {S : K → Prop} {k : K} (hT : Tab M H B S) (hd : d < M) (hb : ∀ d', d' < d → B ((H k + d') % M) ≠ none ∧ B ((H k + d') % M) ≠ some k) (hh : (S k ∧ B ((H k + d) % M) = some k) ∨ (¬ S k ∧ B ((H k + d) % M) = none)) : Tab M H (fun x => if x = (H k + d) % M then some k else B x) (fun q => S q ∨ q = k) := by
  refine ⟨fun x q hx h => ?_, fun q hq => ?_⟩
  · by_cases e : x = (H k + d) % M
    · simp only [if_pos e] at h
      exact Or.inr (Option.some.inj h).symm
    · simp only [if_neg e] at h
      exact Or.inl (hT.1 x q hx h)
  · by_cases e : q = k
    · subst e
      refine ⟨d, hd, by simp only [if_pos], fun d' hd' => ?_⟩
      dsimp only
      split
      · exact fun z => by cases z
      · exact (hb d' hd').1
    · have s := hq.resolve_right e
      obtain ⟨d0, h1, h2, h3⟩ := hT.2 q s
      refine ⟨d0, h1, ?_, fun d' hd' => ?_⟩
      · dsimp only
        rw [if_neg]
        · exact h2
        · intro z
          rw [z] at h2
          rcases hh with ⟨-, w⟩ | ⟨-, w⟩
          · rw [w] at h2; exact e (Option.some.inj h2).symm
          · rw [w] at h2; cases h2
      · dsimp only
        split
        · exact fun z => by cases z
        · exact h3 d' hd'
theorem tab_none {K : Type} (M : Nat) (H : K → Nat) : Tab M H (fun _ => none) (fun _ => False) := ⟨fun _ _ _ h => (Option.some_ne_none _ h.symm).elim, fun _ h => False.elim h⟩
/-- so long as fewer than M were put, a slot is free -/
theorem cnt_upd {p q : Nat → Bool} {y : Nat} (h : ∀ x, x ≠ y → q x = p x) : ∀ k, cnt q k ≤ cnt p k + (if y < k then 1 else 0) := by
  intro k
  induction k with
  | zero => exact Nat.zero_le _
  | succ k ih =>
    by_cases e : k = y
    · subst e
      rw [if_neg (by omega)] at ih
      rw [if_pos (by omega)]
      by_cases a : q k = true
      · rw [cnt_y a]
        by_cases b : p k = true
        · rw [cnt_y b]; omega
        · rw [cnt_f b]; omega
      · rw [cnt_f a]
        by_cases b : p k = true
        · rw [cnt_y b]; omega
        · rw [cnt_f b]; omega
    · have hk := h k e
      have e2 : (if y < k + 1 then 1 else 0) = (if y < k then 1 else 0) := by
        by_cases w : y < k
        · rw [if_pos w, if_pos (by omega)]
        · rw [if_neg w, if_neg (by omega)]
      rw [e2]
      by_cases b : p k = true
      · rw [cnt_y b, cnt_y (by rw [hk]; exact b)]; omega
      · rw [cnt_f b, cnt_f (by rw [hk]; exact b)]; exact ih
theorem cnt_all {p : Nat → Bool} : ∀ {k}, (∀ x, x < k → p x = true) → cnt p k = k := by
  intro k
  induction k with
  | zero => intro _; rfl
  | succ k ih => intro h; rw [cnt_y (h k (by omega)), ih (fun x hx => h x (by omega))]
theorem tab_free {K : Type} {M r : Nat} {B : Nat → Option K} (h : cnt (fun x => (B x).isSome) M ≤ r) (hr : r < M) : ∃ x, x < M ∧ B x = none := by
  by_cases q : ∃ x, x < M ∧ B x = none
  · exact q
  · have := cnt_all (p := fun x => (B x).isSome) (k := M) (fun x hx => by
      cases e : B x with
      | none => exact absurd ⟨x, hx, e⟩ q
      | some k => rfl)
    omega
