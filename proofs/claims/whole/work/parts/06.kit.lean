/-! guards of the pure functions, and how the walk reads them -/
def gI {α : Type} (i : Int32) (n : Nat) (k : Option α) : Option α := if 0 ≤ i.toInt ∧ i.toInt < (n : Int) then k else none
def gN {α : Type} (y : Int32) (k : Option α) : Option α := if y = 0 then none else k
def gZ {α : Type} (v : Int32) (k : Option α) : Option α := if v = 0 ∨ v = 1 then k else none
theorem dg_t {α : Type} {c : Prop} [Decidable c] {a b x : α} (h : c) (hf : (if c then a else b) = x) : a = x := by rw [if_pos h] at hf; exact hf
theorem dg_f {α : Type} {c : Prop} [Decidable c] {a b x : α} (h : ¬ c) (hf : (if c then a else b) = x) : b = x := by rw [if_neg h] at hf; exact hf
theorem dg_bind {α β : Type} {o : Option α} {k : α → Option β} {r : β} (h : o.bind k = some r) : ∃ x, o = some x ∧ k x = some r := Option.bind_eq_some_iff.mp h
theorem dg_ix {α : Type} {i : Int32} {n : Nat} {k : Option α} {r : α} (h : gI i n k = some r) : vp_in i n ∧ k = some r := by
  unfold gI at h
  by_cases hc : 0 ≤ i.toInt ∧ i.toInt < (n : Int)
  · rw [if_pos hc] at h
    exact ⟨vp_in_iff.mpr hc, h⟩
  · rw [if_neg hc] at h
    cases h
theorem dg_nz {α : Type} {y : Int32} {k : Option α} {r : α} (h : gN y k = some r) : ¬ y = 0 ∧ k = some r := by
  unfold gN at h
  by_cases hc : y = 0
  · rw [if_pos hc] at h
    cases h
  · rw [if_neg hc] at h
    exact ⟨hc, h⟩
theorem dg_z {α : Type} {v : Int32} {k : Option α} {r : α} (h : gZ v k = some r) : narrow .boolean (.int v) = .int v ∧ k = some r := by
  unfold gZ at h
  by_cases hc : v = 0 ∨ v = 1
  · rw [if_pos hc] at h
    refine ⟨?_, h⟩
    rcases hc with rfl | rfl <;> decide
  · rw [if_neg hc] at h
    cases h
/-- a contract's start doesn't look at the frames -/
theorem blind_pc {av : List Value} {sz : Nat} {D : va_G} {cl : List vw_C} {ws : va_W} {tys : List (ClassId × FieldType)} {B : Nat → Prop} : FrameBlind (va_Pc av (fun U => U.heap.size = sz ∧ va_P D cl ws U.heap ∧ va_K D cl tys U ∧ va_D B ws)) := fun a U g mk q => by
  obtain ⟨q0, q1, qP, qK, qD⟩ := q
  exact ⟨q0, q1, qP, va_K.moved (u := U) (U := U.calling g mk a) (Vm.Alike.refl U.vm) qK, qD⟩
theorem pre_pc {s : State} {H : Heap} {av : List Value} {D : va_G} {cl : List vw_C} {ws : va_W} {tys : List (ClassId × FieldType)} {A : Nat → Prop} (hPc : va_P D cl ws H) (hK : va_K D cl tys s) (hDc : va_D A ws) : ∀ U : State, U.heap = H → s.WarmedH U.vm → va_Pc av (fun U => U.heap.size = H.size ∧ va_P D cl ws U.heap ∧ va_K D cl tys U ∧ va_D (fun _ => True) ws) av.toArray U := fun U hU hW =>
  ⟨rfl, by rw [hU], by rw [hU]; exact hPc, va_K.moved hW.alike hK, hDc.weaken (fun _ _ _ _ => trivial)⟩
theorem kt_eq {D : va_G} {cl : List vw_C} {tys : List (ClassId × FieldType)} {s : State} (h : va_K D cl tys s) (i j : Nat) {a b : ClassId} {ty : FieldType} (hi : tys[i]? = some (a, ty)) (hj : tys[j]? = some (b, ty)) (hp : ty = .int ∨ ty = .long ∨ ty = .boolean) : a = b := by
  have h1 := (h.2 i _ hi).2
  have h2 := (h.2 j _ hj).2
  rcases hp with rfl | rfl | rfl
  · exact Option.some.inj (h1.symm.trans h2)
  · exact Option.some.inj (h1.symm.trans h2)
  · exact Option.some.inj (h1.symm.trans h2)
