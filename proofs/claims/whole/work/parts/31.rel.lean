/-! THE TIE between the class's ints σ and the reference's ints τ -/
def RTape (σ τ : St) : Prop := ∃ n, n ≤ 600 ∧ σ 1 1 = nI n ∧ τ 0 6 = nI n ∧ ∀ i, i < n → σ 2 i = τ 5 i
def RFault (σ τ : St) : Prop := σ 3 1 = τ 0 7 ∧ σ 3 2 = τ 0 8
/-- a text: u units, sizes z, what stands behind b, letters L -/
def OkT (u : Nat) (z : Nat → Nat) (b : Nat → Int32) (L : Nat → Nat → Int32) : Prop :=
  u ≤ 80 ∧ ∀ k, k < u → 1 ≤ z k ∧ z k ≤ 20 ∧ (b k = nI 32 ∨ b k = nI 44 ∨ b k = nI 45 ∨ b k = nI 46 ∨ b k = nI 47) ∧ ∀ i, i < z k → ∃ a, 97 ≤ a ∧ a ≤ 122 ∧ L k i = nI a
/-- the number of a unit's word -/
def wn (b : Nat → Int32) : Nat → Nat
  | 0 => 0
  | k + 1 => wn b k + (if b k = nI 45 then 0 else 1)
def CU (σ : St) (u : Nat) (z : Nat → Nat) (b : Nat → Int32) (L : Nat → Nat → Int32) : Prop :=
  σ 8 3 = nI u ∧ ∀ k, k < u → σ 10 k = nI (z k) ∧ σ 11 k = b k ∧ ∀ i, i < z k → σ 9 (20 * k + i) = L k i
def MU (τ : St) (u : Nat) (z : Nat → Nat) (b : Nat → Int32) (L : Nat → Nat → Int32) : Prop :=
  τ 0 0 = nI u ∧ ∀ k, k < u → τ 1 k = nI (z k) ∧ τ 3 k = b k ∧ (∀ i, i < z k → τ 2 (20 * k + i) = L k i) ∧ τ 4 k = nI (wn b k)
def RMark (u : Nat) (σ τ : St) : Prop := ∃ c, c ≤ 20 ∧ σ 27 2 = nI c ∧ τ 0 33 = nI c ∧ ∀ m, m < c → σ 28 m = τ 17 m ∧ σ 29 m = τ 18 m ∧ ∃ j, j < u ∧ σ 28 m = nI j
/-- lines: nl of them, first units fs, how many mn, signs ns, each sign sg -/
def CSet (σ : St) (nl : Nat) (fs mn ns : Nat → Nat) (sg : Nat → Nat → Int32) : Prop :=
  nl ≤ 80 ∧ σ 14 3 = nI nl ∧ ∃ (su : Nat) (bg en : Nat → Nat), su ≤ 80 ∧ σ 15 5 = nI su ∧ (∀ k, k < su → σ 18 k = nI (bg k) ∧ σ 19 k = nI (en k)) ∧
    ∀ k, k < nl → σ 21 k = nI (fs k) ∧ σ 22 k = nI (mn k) ∧ 1 ≤ mn k ∧ fs k + mn k ≤ su ∧ bg (fs k) ≤ en (fs k + mn k - 1) ∧ en (fs k + mn k - 1) ≤ 1920 ∧
      ns k = en (fs k + mn k - 1) - bg (fs k) + (if σ 20 (fs k + mn k - 1) = nI 45 then 1 else 0) ∧ ns k ≤ 60 ∧
      (∀ i, i < en (fs k + mn k - 1) - bg (fs k) → σ 16 (bg (fs k) + i) = sg k i) ∧ (σ 20 (fs k + mn k - 1) = nI 45 → sg k (en (fs k + mn k - 1) - bg (fs k)) = nI 45)
def MSet (τ : St) (nl : Nat) (fs mn ns : Nat → Nat) (sg : Nat → Nat → Int32) : Prop :=
  τ 0 26 = nI nl ∧ ∀ k, k < nl → τ 13 k = nI (fs k) ∧ τ 14 k = nI (mn k) ∧ τ 15 k = nI (ns k) ∧ ∀ i, i < ns k → τ 16 (60 * k + i) = sg k i
/-- the lines hold the units 0 .. u - 1 in order -/
def Part (u nl : Nat) (fs mn : Nat → Nat) : Prop :=
  (nl = 0 → u = 0) ∧ (0 < nl → fs 0 = 0 ∧ fs (nl - 1) + mn (nl - 1) = u) ∧ ∀ k, k + 1 < nl → fs (k + 1) = fs k + mn k
def RSet (u : Nat) (σ τ : St) : Prop :=
  (σ 14 4 = nI 0 ∨ σ 14 4 = nI 1) ∧ (σ 14 5 = nI 0 ∨ σ 14 5 = nI 1) ∧ (τ 0 25 = nI 0 ∨ τ 0 25 = nI 1) ∧ τ 0 24 = σ 14 4 ∧ (τ 0 25 = nI 1 ↔ σ 14 4 = nI 1 ∧ σ 14 5 = nI 1) ∧
  (σ 14 4 = nI 1 → ∃ (nl : Nat) (fs mn ns : Nat → Nat) (sg : Nat → Nat → Int32), CSet σ nl fs mn ns sg ∧ MSet τ nl fs mn ns sg ∧ (σ 14 5 = nI 1 → Part u nl fs mn))
def RText (σ τ : St) : Prop := ∃ (u : Nat) (z : Nat → Nat) (b : Nat → Int32) (L : Nat → Nat → Int32), OkT u z b L ∧ CU σ u z b L ∧ MU τ u z b L ∧ RMark u σ τ ∧ RSet u σ τ
/-- the class's table of strains of places, by the kinds of the signs -/
def pl28 (rv : Nat) (lk : Nat → Nat → Nat) (a b : Nat) : Nat := if a = 26 ∧ b = 26 then rv else if a < 26 ∧ b < 26 then lk a b else 0
def CM (σ : St) (lg sp sh ph inn ct rv : Nat) (lk : Nat → Nat → Nat) : Prop :=
  σ 12 0 = nI lg ∧ σ 12 1 = nI sp ∧ σ 12 2 = nI sh ∧ σ 12 3 = nI ph ∧ σ 12 4 = nI inn ∧ σ 12 5 = nI ct ∧ ∀ a b, a < 28 → b < 28 → σ 13 (28 * a + b) = nI (pl28 rv lk a b)
def MM (τ : St) (lg sp sh ph inn ct rv : Nat) (lk : Nat → Nat → Nat) : Prop :=
  τ 0 13 = nI lg ∧ τ 0 14 = nI sp ∧ τ 0 15 = nI sh ∧ τ 0 16 = nI ph ∧ τ 0 17 = nI inn ∧ τ 0 18 = nI ct ∧ τ 0 19 = nI rv ∧ ∀ a b, a < 26 → b < 26 → τ 9 (26 * a + b) = nI (lk a b)
def OkM (lg sp sh ph inn ct rv : Nat) (lk : Nat → Nat → Nat) : Prop :=
  10 ≤ lg ∧ lg ≤ 60 ∧ 1 ≤ sp ∧ sp ≤ 3 ∧ sh ≤ 100 ∧ ph ≤ 10000 ∧ inn ≤ 10000 ∧ ct ≤ 10000 ∧ rv ≤ 1000 ∧ ∀ a b, a < 26 → b < 26 → lk a b ≤ 1000
def RMeas (σ τ : St) : Prop := ∃ (lg sp sh ph inn ct rv : Nat) (lk : Nat → Nat → Nat), OkM lg sp sh ph inn ct rv lk ∧ CM σ lg sp sh ph inn ct rv lk ∧ MM τ lg sp sh ph inn ct rv lk
def RPage (σ τ : St) : Prop := ∃ r t, 2 ≤ r ∧ r ≤ 40 ∧ 2 ≤ t ∧ t ≤ 7 ∧ σ 26 0 = nI r ∧ τ 0 31 = nI r ∧ σ 26 1 = nI t ∧ τ 0 32 = nI t
/-- the way's neighbour is on the grid -/
def onG (i j w : Nat) : Prop := (w = 0 ∧ i < 10) ∨ (w = 1 ∧ 0 < i) ∨ (w = 2 ∧ j < 2) ∨ (w = 3 ∧ 0 < j)
def RTest (σ τ : St) : Prop :=
  (σ 30 1 = nI 0 ∧ σ 30 5 = -1 ∧ τ 0 36 = nI 0) ∨
  ∃ (i j ld an wo w : Nat), σ 30 1 = nI 1 ∧ τ 0 36 = nI 1 ∧ i < 11 ∧ j < 3 ∧ σ 30 2 = nI i ∧ τ 0 37 = nI i ∧ σ 30 3 = nI j ∧ τ 0 38 = nI j ∧ 1 ≤ ld ∧ ld ≤ 9 ∧ σ 30 4 = nI ld ∧ τ 0 39 = nI ld ∧
    an ≤ 200 ∧ wo ≤ an ∧ σ 30 7 = nI an ∧ τ 0 41 = nI an ∧ σ 30 8 = nI wo ∧ τ 0 42 = nI wo ∧ w ≤ 4 ∧ τ 0 43 = nI w ∧ σ 30 6 = τ 0 40 ∧ ((∃ x, x < ld ∧ σ 30 6 = nI x) ∨ ∃ y, 0 < y ∧ y < ld ∧ σ 30 6 = nI 0 - nI y) ∧
    (σ 30 5 = if w = 4 ∨ an = 200 then -1 else nI w) ∧ (w < 4 → onG i j w) ∧ (∀ v, v < w → σ 31 v = nI 1 ∨ ¬ onG i j v) ∧ (an < 200 → ∀ v, w ≤ v → v < 4 → σ 31 v = nI 0)
def Rel (σ τ : St) : Prop := RTape σ τ ∧ RFault σ τ ∧ RText σ τ ∧ RMeas σ τ ∧ RPage σ τ ∧ RTest σ τ
