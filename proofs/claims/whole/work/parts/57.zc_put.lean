theorem pn {N r : Nat} {k : Int64} {L : Nat → Int64} {S : Int64 → Prop} (hN : 200000 ≤ N) (hk : k ≠ 0) (hT : Tab 2048 hX (bX L) S) (hc : cnt (fun x => (bX L x).isSome) 2048 ≤ r) (hr : r < 2048) : ∃ (b : Bool) (L' : Nat → Int64), f_X3_putNew N k L = some ((if b = true then (1:Int32) else 0), L') ∧ (b = true ↔ ¬ S k) ∧ Tab 2048 hX (bX L') (fun q => S q ∨ q = k) ∧ cnt (fun x => (bX L' x).isSome) 2048 ≤ r + 1 := by
  obtain ⟨d, hd, hb, hh⟩ := tab_find hT (tab_free hc hr) k
  have put := tab_put hT hd hb hh
  unfold f_X3_putNew
  rcases hh with ⟨s, e⟩ | ⟨s, e⟩
  · refine ⟨false, L, ?_, ⟨fun z => Bool.noConfusion z, fun z => absurd s z⟩, ?_, by omega⟩
    · exact pn_go hk hd hb false (Or.inl ⟨rfl, e⟩) (fun z4_13 => some ((0:Int32), L)) d N 0 (by omega) (by omega)
    · refine ⟨fun x q hx h => Or.inl (hT.1 x q hx h), fun q hq => ?_⟩
      rcases hq with hq | rfl
      · exact hT.2 q hq
      · exact hT.2 q s
  · have eb : bX (vp_updL L ((hX k + d) % 2048) k) = fun x => if x = (hX k + d) % 2048 then some k else bX L x := by
      funext x
      by_cases z : x = (hX k + d) % 2048
      · subst z
        rw [if_pos rfl]
        unfold bX
        rw [upL_s, if_neg hk]
      · rw [if_neg z]
        unfold bX
        rw [upL_n z]
    refine ⟨true, vp_updL L ((hX k + d) % 2048) k, ?_, ⟨fun _ => s, fun _ => rfl⟩, ?_, ?_⟩
    · exact pn_go hk hd hb true (Or.inr ⟨rfl, e⟩) (fun z4_13 => some ((0:Int32), L)) d N 0 (by omega) (by omega)
    · rw [eb]; exact put
    · have := cnt_upd (p := fun x => (bX L x).isSome) (q := fun x => (bX (vp_updL L ((hX k + d) % 2048) k) x).isSome) (y := (hX k + d) % 2048) (fun x hx => by rw [eb]; simp only [if_neg hx]) 2048
      have h1 : (if (hX k + d) % 2048 < 2048 then 1 else 0) ≤ 1 := by split <;> omega
      omega
