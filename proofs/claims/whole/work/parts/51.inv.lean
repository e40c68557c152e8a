/-! WHAT A STATE IS. A row of words is (m, v): m words, v < 4 ^ m its figures by four. The class holds 4 ^ m + v, the reference 4096 * m + v.
A habit is 0 (none) or a word and 1; the reference holds -9 or the word. -/
def mN (x : Nat) : Int32 := if x = 0 then -9 else nI (x - 1)
def pkN (m v : Nat) (F T C : Nat → Nat) : Nat := (4 ^ m + v) * 68719476736 + ((((64 * F 3 + 8 * T 3 + C 3) * 512 + (64 * F 2 + 8 * T 2 + C 2)) * 512 + (64 * F 1 + 8 * T 1 + C 1)) * 512 + (64 * F 0 + 8 * T 0 + C 0))
/-- text: tn letters, the same on both sides -/
def TextR (tn : Nat) (ts : Int32) (tl : Nat → Int32) (ml : Int32) (mt : Nat → Int32) : Prop := tn ≤ 32 ∧ ts = nI tn ∧ ml = nI tn ∧ ∀ k, k < tn → tl k = mt k
/-- n clerks: what they drop, where they tire -/
def ClerkR (n : Nat) (D I : Nat → Nat) (bs : Int32) (bd bi : Nat → Int32) (mc : Int32) (md mi : Nat → Int32) : Prop := n ≤ 4 ∧ bs = nI n ∧ mc = nI n ∧ ∀ c, c < n → D c ≤ 4 ∧ I c ≤ 9 ∧ bd c = nI (D c) ∧ bi c = nI (I c) ∧ md c = mN (D c) ∧ mi c = nI (I c)
/-- a trial and the habits that acts change -/
def NowOk (n m v : Nat) (F T C : Nat → Nat) : Prop := m ≤ 6 ∧ v < 4 ^ m ∧ (∀ c, c < 4 → F c ≤ 4 ∧ T c ≤ 4 ∧ C c ≤ 4) ∧ ∀ c, c < n → (F c ≠ 0 → T c ≠ 0) ∧ C c ≤ c
def NowX (m v : Nat) (F T C : Nat → Nat) (sp : Int32) (bf bt bc : Nat → Int32) : Prop := sp = nI (4 ^ m + v) ∧ ∀ c, c < 4 → bf c = nI (F c) ∧ bt c = nI (T c) ∧ bc c = nI (C c)
def NowM (n m v : Nat) (F T C : Nat → Nat) (mn : Nat → Int32) : Prop := mn 0 = nI (4096 * m + v) ∧ ∀ c, c < n → mn (1 + c) = mN (F c) ∧ mn (5 + c) = mN (T c) ∧ mn (9 + c) = mN (C c)
/-- told pages: t c = none: none is told -/
def ToldR (n : Nat) (t : Nat → Option (Nat × Nat)) (to mt : Nat → Int32) : Prop := ∀ c, c < n → (t c = none ∧ to c = 0 ∧ mt c = -9) ∨ ∃ a b, t c = some (a, b) ∧ a ≤ 6 ∧ b < 4 ^ a ∧ to c = nI (4 ^ a + b) ∧ mt c = nI (4096 * a + b)
/-- one remembered state: its number, and its thirteen numbers -/
def OldR (n : Nat) (x : Int64) (f : Nat → Int32) : Prop := ∃ (m v : Nat) (F T C : Nat → Nat), NowOk n m v F T C ∧ x = lN (pkN m v F T C) ∧ NowM n m v F T C f
def ActsR (n la nx : Nat) (as : Int32) (ab : Nat → Int64) (ma mx : Int32) (row : Nat → Int32) : Prop := la ≤ 16 ∧ nx < 16 ∧ as = nI la ∧ ma = nI la ∧ mx = nI nx ∧ ∀ i, i < la → OldR n (ab i) (fun k => row (13 * ((nx + 16 - la + i) % 16) + k))
def KeptR (n : Nat) (ke : Nat → Int64) (mk : Nat → Int32) (mq : Nat → Int32) : Prop := ∀ s, s < 2 → (ke s = 0 ∧ mk s = 0) ∨ (mk s = 1 ∧ OldR n (ke s) (fun k => mq (13 * s + k)))
/-- both objects hold one state -/
def Inv (xsp : Int32) (xsd : Int64) (xts : Int32) (xtl : Nat → Int32) (xbs : Int32) (xbd xbf xbt xbi xbc : Nat → Int32) (xas : Int32) (xab : Nat → Int64) (xto : Nat → Int32) (xke : Nat → Int64)
    (mcl mlen mac mnx : Int32) (msd : Int64) (mdr mti mno mto mte mro mik mke : Nat → Int32) : Prop :=
  ∃ (tn n m v la nx : Nat) (D I F T C : Nat → Nat) (t : Nat → Option (Nat × Nat)), TextR tn xts xtl mlen mte ∧ ClerkR n D I xbs xbd xbi mcl mdr mti ∧ NowOk n m v F T C ∧ NowX m v F T C xsp xbf xbt xbc ∧ NowM n m v F T C mno ∧ ToldR n t xto mto ∧ ActsR n la nx xas xab mac mnx mro ∧ KeptR n xke mik mke ∧ xsd = msd
