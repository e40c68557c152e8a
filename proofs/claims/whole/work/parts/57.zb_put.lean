/-! the class's drawers -/
theorem and2047 (Y : Nat) : nI Y &&& (2047:Int32) = nI (Y % 2048) := by
  rw [pk_and (nI Y) 11 (by decide)]
  congr 1
  obtain ⟨k1, h1⟩ := nI_int Y
  obtain ⟨k2, h2⟩ := bv_int (nI Y)
  have h9 : (2:Nat) ^ 11 = 2048 := rfl
  rw [h9]
  omega
theorem and8191 (Y : Nat) : nI Y &&& (8191:Int32) = nI (Y % 8192) := by
  rw [pk_and (nI Y) 13 (by decide)]
  congr 1
  obtain ⟨k1, h1⟩ := nI_int Y
  obtain ⟨k2, h2⟩ := bv_int (nI Y)
  have h9 : (2:Nat) ^ 13 = 8192 := rfl
  rw [h9]
  omega
theorem lg_eq (x y : Int64) : (lg_cmp x y = 0) = (x = y) := by
  unfold lg_cmp
  apply propext
  by_cases h : x > y
  · rw [if_pos h]
    refine ⟨fun z => absurd z (by decide), fun z => ?_⟩
    subst z
    exact absurd h (Int64.lt_irrefl (a := x))
  · rw [if_neg h]
    by_cases e : x = y
    · rw [if_pos e]; exact ⟨fun _ => e, fun _ => rfl⟩
    · rw [if_neg e]; exact ⟨fun z => absurd z (by decide), fun z => absurd z e⟩
def hX (k : Int64) : Nat := (((k * (-7046029254386353131:Int64)).toUInt64 >>> ((53:Int32).toInt64.toUInt64 &&& Int64.toUInt64 63)).toInt64.toInt32).toBitVec.toNat
def bX (L : Nat → Int64) : Nat → Option Int64 := fun x => if L x = 0 then none else some (L x)
theorem hX_at (k : Int64) (d : Nat) : (((k * (-7046029254386353131:Int64)).toUInt64 >>> ((53:Int32).toInt64.toUInt64 &&& Int64.toUInt64 63)).toInt64.toInt32 + nI d) &&& (2047:Int32) = nI ((hX k + d) % 2048) := by
  have e : ((k * (-7046029254386353131:Int64)).toUInt64 >>> ((53:Int32).toInt64.toUInt64 &&& Int64.toUInt64 63)).toInt64.toInt32 = nI (hX k) := by
    apply Int32.toBitVec_inj.mp
    show _ = BitVec.ofNat 32 (hX k)
    unfold hX
    simp
  rw [e, add_n, and2047]
theorem pn_go {N : Nat} {k : Int64} {L : Nat → Int64} {dd : Nat} (hk : k ≠ 0) (hdd : dd < 2048) (hb : ∀ d', d' < dd → bX L ((hX k + d') % 2048) ≠ none ∧ bX L ((hX k + d') % 2048) ≠ some k) (b : Bool) (hh : (b = false ∧ bX L ((hX k + dd) % 2048) = some k) ∨ (b = true ∧ bX L ((hX k + dd) % 2048) = none)) (kk : Int32 → Option (Int32 × (Nat → Int64))) :
    ∀ (j g d : Nat), d + j = dd → j < g → f_X3_putNew_13 N k L kk g (nI d) = some (if b = true then ((1:Int32), vp_updL L ((hX k + dd) % 2048) k) else ((0:Int32), L)) := by
  intro j
  induction j with
  | zero =>
    intro g d hd hg
    obtain ⟨g', rfl⟩ : ∃ g', g = g' + 1 := ⟨g - 1, by omega⟩
    have : d = dd := by omega
    subst this
    have hl : (hX k + d) % 2048 < 2048 := Nat.mod_lt _ (by decide)
    rw [f_X3_putNew_13, if_neg (by rw [L2048, le_n (by omega) (by omega)]; omega), hX_at]
    simp only [gI_n hl (show (2048:Nat) < 2147483648 by decide), cl_n (show (hX k + d) % 2048 < 2147483648 by omega), lg_eq]
    unfold bX at hh
    rcases hh with ⟨e, h⟩ | ⟨e, h⟩
    · by_cases z : L ((hX k + d) % 2048) = 0
      · rw [if_pos z] at h; cases h
      · rw [if_neg z] at h
        have hLk := Option.some.inj h
        rw [if_neg z, if_pos hLk, e, if_neg Bool.noConfusion]
    · by_cases z : L ((hX k + d) % 2048) = 0
      · rw [if_pos z, e, if_pos rfl]
      · rw [if_neg z] at h; cases h
  | succ j ih =>
    intro g d hd hg
    obtain ⟨g', rfl⟩ : ∃ g', g = g' + 1 := ⟨g - 1, by omega⟩
    have hl : (hX k + d) % 2048 < 2048 := Nat.mod_lt _ (by decide)
    obtain ⟨n1, n2⟩ := hb d (by omega)
    unfold bX at n1 n2
    have z : ¬ L ((hX k + d) % 2048) = 0 := fun z => n1 (by rw [if_pos z])
    have z2 : ¬ L ((hX k + d) % 2048) = k := fun y => n2 (by rw [if_neg z, y])
    rw [f_X3_putNew_13, if_neg (by rw [L2048, le_n (by omega) (by omega)]; omega), hX_at, A1r]
    simp only [gI_n hl (show (2048:Nat) < 2147483648 by decide), cl_n (show (hX k + d) % 2048 < 2147483648 by omega), lg_eq]
    rw [if_neg z, if_neg z2]
    exact ih g' (d + 1) (by omega) (by omega)
