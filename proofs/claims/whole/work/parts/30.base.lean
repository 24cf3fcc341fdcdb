/-! PURE ROWS: states, frames, the numbers nI -/
theorem upA_same {σ : St} {c : Nat} {f : Nat → Int32} : upA σ c f c = f := by simp [upA]
theorem upA_ne {σ : St} {c d : Nat} {f : Nat → Int32} (h : d ≠ c) : upA σ c f d = σ d := by simp [upA, h]
theorem up2_eq {σ : St} {c i : Nat} {v : Int32} : up2 σ c i v = upA σ c (upd (σ c) i v) := rfl
theorem up2_ne {σ : St} {c d i : Nat} {v : Int32} (h : d ≠ c) : up2 σ c i v d = σ d := by simp [up2, h]
theorem up2_same {σ : St} {c i : Nat} {v : Int32} : up2 σ c i v c = upd (σ c) i v := by simp [up2]
theorem upd_upd {f : Nat → Int32} {i : Nat} {a b : Int32} : upd (upd f i a) i b = upd f i b := by funext j; by_cases h : j = i <;> simp [upd, h]
theorem upd_same {f : Nat → Int32} {i : Nat} {a : Int32} : upd f i a i = a := by simp [upd]
theorem upd_ne {f : Nat → Int32} {i j : Nat} {a : Int32} (h : j ≠ i) : upd f i a j = f j := by simp [upd, h]
theorem upd_self {f : Nat → Int32} {i : Nat} : upd f i (f i) = f := by funext j; by_cases h : j = i <;> simp [upd, h]
/-- what isn't named stays: then the state is the old one with the named cells new -/
theorem fr1 {σ σ' : St} (a : Nat) (h : ∀ c, c ≠ a → σ' c = σ c) : σ' = upA σ a (σ' a) := by
  funext c
  by_cases h1 : c = a
  · subst h1; simp [upA]
  · rw [upA_ne h1, h c h1]
theorem fr2 {σ σ' : St} (a b : Nat) (h : ∀ c, c ≠ a → c ≠ b → σ' c = σ c) : σ' = upA (upA σ a (σ' a)) b (σ' b) := by
  funext c
  by_cases h2 : c = b
  · subst h2; simp [upA]
  · rw [upA_ne h2]
    by_cases h1 : c = a
    · subst h1; simp [upA]
    · rw [upA_ne h1, h c h1 h2]
theorem fr3 {σ σ' : St} (a b d : Nat) (h : ∀ c, c ≠ a → c ≠ b → c ≠ d → σ' c = σ c) : σ' = upA (upA (upA σ a (σ' a)) b (σ' b)) d (σ' d) := by
  funext c
  by_cases h3 : c = d
  · subst h3; simp [upA]
  · rw [upA_ne h3]
    by_cases h2 : c = b
    · subst h2; simp [upA]
    · rw [upA_ne h2]
      by_cases h1 : c = a
      · subst h1; simp [upA]
      · rw [upA_ne h1, h c h1 h2 h3]
theorem frU {f g : Nat → Int32} (i : Nat) (h : ∀ k, k ≠ i → g k = f k) : g = upd f i (g i) := by
  funext k
  by_cases h1 : k = i
  · subst h1; simp [upd]
  · rw [upd_ne h1, h k h1]
theorem nI_eqm1 {n : Nat} (h : n < 2 ^ 31) : (nI n = -1) ↔ False := by
  refine ⟨fun e => ?_, False.elim⟩
  have := congrArg Int32.toInt e
  rw [nI_toInt h] at this
  simp at this
theorem nI_lt0 {n : Nat} (h : n < 2 ^ 31) : (nI n < 0) ↔ False := ⟨fun e => nI_pos h e, False.elim⟩
theorem vp_in_iffN {n N : Nat} (h : n < 2 ^ 31) : vp_in (nI n) N ↔ n < N := by
  rw [vp_in_iff, nI_toInt h]
  omega
theorem nI_inj {a b : Nat} (ha : a < 2 ^ 31) (hb : b < 2 ^ 31) (h : nI a = nI b) : a = b := (nI_eq ha hb).mp h
/-- an argument that is a place below n, or isn't -/
theorem ix3 (x : Int32) {n : Nat} (hn : n < 2 ^ 31) : x < nI 0 ∨ (¬ x < nI 0 ∧ nI n ≤ x) ∨ ∃ j : Nat, j < n ∧ x = nI j := by
  rcases pk_ix x hn with h | h | h
  · exact Or.inl h
  · by_cases h0 : x < nI 0
    · exact Or.inl h0
    · exact Or.inr (Or.inl ⟨h0, h⟩)
  · exact Or.inr (Or.inr h)
/-- an argument within bounds -/
theorem inN {x : Int32} {a b : Nat} (ha : a < 2 ^ 31) (hb : b < 2 ^ 31) (h1 : ¬ x < nI a) (h2 : ¬ nI b < x) : ∃ j : Nat, a ≤ j ∧ j ≤ b ∧ x = nI j := by
  rcases nI_of2 (x := x) (M := nI b) (n := b) (nI_toInt hb) (fun hx => h1 (Int32.lt_of_lt_of_le hx (nI_pos' ha))) (Int32.not_lt.mp h2) with ⟨j, hj, e⟩
  refine ⟨j, ?_, hj, e⟩
  subst e
  rw [nI_ltI (by omega) ha] at h1
  omega
