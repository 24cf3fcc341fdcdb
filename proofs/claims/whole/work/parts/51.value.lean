/-! strains -/
/-- of two signs, one above the other -/
def pl_ (rv : Nat) (lk : Nat → Nat → Nat) (x y : Int32) : Nat :=
  if x = nI 32 ∧ y = nI 32 then rv else if (¬ (x < nI 97 ∨ nI 122 < x)) ∧ ¬ (y < nI 97 ∨ nI 122 < y) then lk (x.toNatClampNeg - 97) (y.toNatClampNeg - 97) else 0
/-- of two stretches of the row, from p and from q on -/
def ps_ (S : Nat → Int32) (rv : Nat) (lk : Nat → Nat → Nat) (p q : Nat) : Nat → Nat
  | 0 => 0
  | n + 1 => ps_ S rv lk p q n + pl_ rv lk (S (p + n)) (S (q + n))
/-- for how a line ends -/
def eb_ (ph inn ct : Nat) (c : Int32) : Nat := if c = nI 46 then 0 else if c = nI 44 ∨ c = nI 47 then ph else if c = nI 45 then ct else inn
theorem letN {x : Int32} (h : ¬ (x < nI 97 ∨ nI 122 < x)) : x.toNatClampNeg - 97 < 26 ∧ x = nI (x.toNatClampNeg - 97 + 97) := by
  obtain ⟨a, a1, a2, rfl⟩ := isLet h
  rw [nI_clamp (by omega)]
  exact ⟨by omega, by rw [show a - 97 + 97 = a by omega]⟩
theorem pl_le {rv : Nat} {lk : Nat → Nat → Nat} (hrv : rv ≤ 1000) (hlk : ∀ a b, a < 26 → b < 26 → lk a b ≤ 1000) (x y : Int32) : pl_ rv lk x y ≤ 1000 := by
  unfold pl_
  split
  · exact hrv
  · split
    · rename_i h
      exact hlk _ _ (letN h.1).1 (letN h.2).1
    · omega
theorem ps_le {S : Nat → Int32} {rv : Nat} {lk : Nat → Nat → Nat} {p q : Nat} (hrv : rv ≤ 1000) (hlk : ∀ a b, a < 26 → b < 26 → lk a b ≤ 1000) : ∀ n, ps_ S rv lk p q n ≤ 1000 * n
  | 0 => Nat.le_refl 0
  | n + 1 => by
    have := ps_le (S := S) (p := p) (q := q) hrv hlk n
    have := pl_le hrv hlk (S (p + n)) (S (q + n))
    simp only [ps_]
    omega
section VAL2
variable (u : Nat) (z : Nat → Nat) (b : Nat → Int32) (S : Nat → Int32) (lg sp sh ph inn ct rv : Nat) (lk : Nat → Nat → Nat)
/-- of line (f, n), and of it and the line (f + n, m) below it -/
def ls_ (f n : Nat) : Nat := (lg - NS_ z b sp f n) * (lg - NS_ z b sp f n) * sh + eb_ ph inn ct (b (f + n - 1))
def pr_ (f n m : Nat) : Nat := ps_ S rv lk (bg_ z b sp f) (bg_ z b sp (f + n)) (min (B_ z b sp f n) (B_ z b sp (f + n) m))
/-- the least strain from line (f, n) on -/
def V_ : Nat → Nat → Nat → Nat
  | 0, _, _ => 0
  | d + 1, f, n => if f + n < u then ls_ z b lg sp sh ph inn ct f n + (bm_ (fun m => pr_ z b S sp rv lk f n m + V_ d (f + n) m) (mx_ u z b sp lg (f + n))).1 else 0
def Vf_ (f n : Nat) : Nat := V_ u z b S lg sp sh ph inn ct rv lk u f n
theorem V_fuel : ∀ (d d' f n : Nat), u - f ≤ d → u - f ≤ d' → 1 ≤ n → V_ u z b S lg sp sh ph inn ct rv lk d f n = V_ u z b S lg sp sh ph inn ct rv lk d' f n
  | 0, 0, _, _, _, _, _ => rfl
  | 0, d' + 1, f, n, h1, h2, h3 => by
    simp only [V_]
    rw [if_neg (by omega)]
  | d + 1, 0, f, n, h1, h2, h3 => by
    simp only [V_]
    rw [if_neg (by omega)]
  | d + 1, d' + 1, f, n, h1, h2, h3 => by
    simp only [V_]
    by_cases h : f + n < u
    · rw [if_pos h, if_pos h, bm_congr (fun j j1 j2 => by rw [V_fuel d d' (f + n) j (by omega) (by omega) j1])]
    · rw [if_neg h, if_neg h]
theorem Vf_eq {f n : Nat} (hn : 1 ≤ n) : Vf_ u z b S lg sp sh ph inn ct rv lk f n = if f + n < u then ls_ z b lg sp sh ph inn ct f n + (bm_ (fun m => pr_ z b S sp rv lk f n m + Vf_ u z b S lg sp sh ph inn ct rv lk (f + n) m) (mx_ u z b sp lg (f + n))).1 else 0 := by
  unfold Vf_
  rw [V_fuel u z b S lg sp sh ph inn ct rv lk u (u + 1) f n (by omega) (by omega) hn]
  simp only [V_]
end VAL2
theorem eb_le {ph inn ct : Nat} (h1 : ph ≤ 10000) (h2 : inn ≤ 10000) (h3 : ct ≤ 10000) (c : Int32) : eb_ ph inn ct c ≤ 10000 := by
  unfold eb_
  split
  · omega
  · split
    · omega
    · split <;> omega
theorem ls_le {z : Nat → Nat} {b : Nat → Int32} {lg sp sh ph inn ct f n : Nat} (hlg : lg ≤ 60) (hsh : sh ≤ 100) (h1 : ph ≤ 10000) (h2 : inn ≤ 10000) (h3 : ct ≤ 10000) : ls_ z b lg sp sh ph inn ct f n ≤ 370000 := by
  unfold ls_
  have h4 := eb_le h1 h2 h3 (b (f + n - 1))
  have h5 : (lg - NS_ z b sp f n) * (lg - NS_ z b sp f n) ≤ 60 * 60 := Nat.mul_le_mul (by omega) (by omega)
  have h6 : (lg - NS_ z b sp f n) * (lg - NS_ z b sp f n) * sh ≤ 3600 * 100 := Nat.mul_le_mul h5 hsh
  omega
theorem pr_le {z : Nat → Nat} {b : Nat → Int32} {S : Nat → Int32} {sp rv : Nat} {lk : Nat → Nat → Nat} {f n m : Nat} (hrv : rv ≤ 1000) (hlk : ∀ a b, a < 26 → b < 26 → lk a b ≤ 1000) (hB : B_ z b sp f n ≤ 60) : pr_ z b S sp rv lk f n m ≤ 60000 := by
  unfold pr_
  have := ps_le (S := S) (p := bg_ z b sp f) (q := bg_ z b sp (f + n)) hrv hlk (min (B_ z b sp f n) (B_ z b sp (f + n) m))
  omega
theorem bm_le {g : Nat → Nat} {M : Nat} : ∀ k, (∀ j, 1 ≤ j → j ≤ k → g j ≤ M) → (bm_ g k).1 ≤ M
  | 0, _ => Nat.zero_le _
  | k + 1, h => by
    obtain ⟨h1, h2, h3, -⟩ := bm_spec g (k + 1) (by omega)
    rw [← h3]
    exact h _ h1 h2
theorem V_le {u : Nat} {z : Nat → Nat} {b : Nat → Int32} {S : Nat → Int32} {lg sp sh ph inn ct rv : Nat} {lk : Nat → Nat → Nat} (hz : ∀ k, k < u → 1 ≤ z k) (hsp : 1 ≤ sp) (hlg : lg ≤ 60) (hsh : sh ≤ 100) (h1 : ph ≤ 10000) (h2 : inn ≤ 10000) (h3 : ct ≤ 10000) (hrv : rv ≤ 1000) (hlk : ∀ a b, a < 26 → b < 26 → lk a b ≤ 1000) : ∀ (d f n : Nat), f + n ≤ u → NS_ z b sp f n ≤ lg → V_ u z b S lg sp sh ph inn ct rv lk d f n ≤ 430000 * d
  | 0, _, _, _, _ => Nat.le_refl 0
  | d + 1, f, n, hf, hfit => by
    simp only [V_]
    split
    · have a1 := ls_le (z := z) (b := b) (sp := sp) (f := f) (n := n) hlg hsh h1 h2 h3
      have a2 : (bm_ (fun m => pr_ z b S sp rv lk f n m + V_ u z b S lg sp sh ph inn ct rv lk d (f + n) m) (mx_ u z b sp lg (f + n))).1 ≤ 60000 + 430000 * d := by
        refine bm_le _ (fun j j1 j2 => ?_)
        have q1 := mx_le (z := z) (b := b) (sp := sp) (lg := lg) (show f + n ≤ u by omega)
        have q2 := V_le (S := S) hz hsp hlg hsh h1 h2 h3 hrv hlk d (f + n) j (by omega) (mx_fit hz hsp (by omega) j1 j2)
        have q3 := pr_le (z := z) (b := b) (S := S) (sp := sp) (f := f) (n := n) (m := j) hrv hlk (by unfold NS_ at hfit; omega)
        omega
      omega
    · omega
