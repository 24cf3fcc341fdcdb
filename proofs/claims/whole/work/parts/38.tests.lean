/-! tests of readers -/
theorem up2_up2 {σ : St} {c i : Nat} {v v' : Int32} : up2 (up2 σ c i v) c i v' = up2 σ c i v' := by
  funext d
  by_cases h : d = c
  · subst h; simp only [up2_same, upd_upd]
  · simp only [up2_ne h]
theorem upA_upA {σ : St} {c : Nat} {f g : Nat → Int32} : upA (upA σ c f) c g = upA σ c g := by
  funext d
  by_cases h : d = c
  · subst h; simp only [upA_same]
  · simp only [upA_ne h]
theorem nI_i_m1 {i : Nat} (h : 0 < i) : nI i + (-1) = nI (i - 1) := by
  obtain ⟨k, rfl⟩ : ∃ k, i = k + 1 := ⟨i - 1, by omega⟩
  rw [pk_m1]; rfl
theorem onG_iff {i j w : Nat} (hi : i < 11) (hj : j < 3) (hw : w < 4) : onG i j w ↔ ¬ ((nI i + fLs w < nI 0 ∨ nI 10 < nI i + fLs w) ∨ (nI j + fSs w < nI 0 ∨ nI 2 < nI j + fSs w)) := by
  have hw4 : w = 0 ∨ w = 1 ∨ w = 2 ∨ w = 3 := by omega
  have hi11 : i = 0 ∨ i = 1 ∨ i = 2 ∨ i = 3 ∨ i = 4 ∨ i = 5 ∨ i = 6 ∨ i = 7 ∨ i = 8 ∨ i = 9 ∨ i = 10 := by omega
  have hj3 : j = 0 ∨ j = 1 ∨ j = 2 := by omega
  unfold onG
  rcases hw4 with rfl | rfl | rfl | rfl <;> rcases hj3 with rfl | rfl | rfl <;> rcases hi11 with rfl | rfl | rfl | rfl | rfl | rfl | rfl | rfl | rfl | rfl | rfl <;> decide +kernel
theorem nb_ex {i j w : Nat} (hi : i < 11) (hj : j < 3) (hw : w < 4) (h : onG i j w) : ∃ i' j', i' < 11 ∧ j' < 3 ∧ nI i + fLs w = nI i' ∧ nI j + fSs w = nI j' := by
  have h2 := not_or.mp ((onG_iff hi hj hw).mp h)
  have h3 := not_or.mp h2.1
  have h4 := not_or.mp h2.2
  obtain ⟨a, -, a2, a3⟩ := inN (a := 0) (b := 10) (by decide) (by decide) h3.1 h3.2
  obtain ⟨b, -, b2, b3⟩ := inN (a := 0) (b := 2) (by decide) (by decide) h4.1 h4.2
  exact ⟨a, b, by omega, by omega, a3, b3⟩
def First (i j k w : Nat) : Prop := k ≤ w ∧ w ≤ 4 ∧ (w < 4 → onG i j w) ∧ ∀ v, k ≤ v → v < w → ¬ onG i j v
theorem First.uniq {i j k w w' : Nat} (h : First i j k w) (h' : First i j k w') : w = w' := by
  obtain ⟨a1, a2, a3, a4⟩ := h
  obtain ⟨b1, b2, b3, b4⟩ := h'
  rcases Nat.lt_trichotomy w w' with q | q | q
  · exact absurd (a3 (by omega)) (b4 w a1 q)
  · exact q
  · exact absurd (b3 (by omega)) (a4 w' b1 q)
theorem e_isOnGrid {σ : St} {x y : Int32} {Q : Int32 → St → Prop} : wp_X8_isOnGrid σ x y Q = ((((x < nI 0 ∨ nI 10 < x) ∨ (y < nI 0 ∨ nI 2 < y)) → Q (nI 0) σ) ∧ (¬ ((x < nI 0 ∨ nI 10 < x) ∨ (y < nI 0 ∨ nI 2 < y)) → Q (nI 1) σ)) := by
  simp only [wp_X8_isOnGrid, e_within]
  by_cases h1 : (x < nI 0 ∨ nI 10 < x) <;> by_cases h2 : (y < nI 0 ∨ nI 2 < y) <;> simp [h1, h2, nI10]
theorem p_nextWay {σ : St} {i j k0 : Nat} {Q : Int32 → St → Prop} (hi : i < 11) (hj : j < 3) (h1 : σ 30 2 = nI i) (h2 : σ 30 3 = nI j) (hb : ∀ v, v < k0 → σ 31 v = nI 1 ∨ ¬ onG i j v) (hb2 : ∀ v, k0 ≤ v → v < 4 → σ 31 v = nI 0) (hk : k0 ≤ 4)
    (hQ : ∀ w, First i j k0 w → Q (if w = 4 then -1 else nI w) σ) : wp_X8_nextWay σ Q := by
  have key : ∀ d k, k + d = 4 → (∀ v, k0 ≤ v → v < k → ¬ onG i j v) → wpl_X8_nextWay_2 Q (d + 1) σ (nI k) := by
    intro d
    induction d with
    | zero =>
      intro k hk2 hn
      obtain rfl : k = 4 := by omega
      unfold wpl_X8_nextWay_2
      refine ⟨fun _ => ?_, fun c => absurd (Int32.le_refl _) c⟩
      exact hQ 4 ⟨hk, by omega, by omega, hn⟩
    | succ d ih =>
      intro k hk2 hn
      unfold wpl_X8_nextWay_2
      have c1 : ¬ nI 4 ≤ nI k := by simp (disch := omega) only [nI_add, nI_eq, nI_leI, nI_ltI, pk_sub, pk_mul, nI_clamp, nI_eqm1, nI_lt0, vp_in_iffN]; omega
      have c2 : vp_in (nI k) 4 := by simp (disch := omega) only [nI_add, nI_eq, nI_leI, nI_ltI, pk_sub, pk_mul, nI_clamp, nI_eqm1, nI_lt0, vp_in_iffN]; omega
      simp only [c1, c2, not_false_eq_true, true_implies, false_implies, true_and, nI_clamp (show k < 2 ^ 31 by omega), wp_X8_longOn, wp_X8_spreadOn, h1, h2, e_isOnGrid, nI10, nI_add]
      have hw := onG_iff hi hj (show k < 4 by omega)
      refine ⟨fun c => ih (k + 1) (by omega) (fun v v1 v2 => ?_), fun c => ⟨fun g => ?_, fun g => ?_⟩⟩
      · by_cases hv : v = k
        · subst hv
          exact absurd (hb2 v v1 (by omega)) c
        · exact hn v v1 (by omega)
      · simp only [not_true_eq_false, true_implies, false_implies, and_true]
        refine ih (k + 1) (by omega) (fun v v1 v2 => ?_)
        by_cases hv : v = k
        · subst hv
          exact fun q => (hw.mp q) g
        · exact hn v v1 (by omega)
      · have hon := hw.mpr g
        have hkk : k0 ≤ k := by
          rcases Nat.lt_or_ge k k0 with q | q
          · rcases hb k q with q2 | q2
            · rw [q2] at c; exact absurd c nI10
            · exact absurd hon q2
          · exact q
        have := hQ k ⟨hkk, by omega, fun _ => hon, hn⟩
        rw [if_neg (by omega)] at this
        exact this
  exact ⟨5, key 4 0 (by omega) (fun v v1 v2 => by omega)⟩
theorem p_makeBest {σ : St} {x y : Int32} {Q : St → Prop} (hQ : ∀ f : Nat → Int32, (∀ v, v < 4 → f v = nI 0) → Q (upA (up2 (up2 σ 30 2 x) 30 3 y) 31 f)) : wp_X8_makeBest σ x y Q := by
  unfold wp_X8_makeBest
  generalize hs : up2 (up2 σ 30 2 x) 30 3 y = ρ at hQ ⊢
  have key : ∀ d k (f : Nat → Int32), k + d = 4 → (∀ v, v < k → f v = nI 0) → wpl_X8_makeBest_12 x y Q (d + 1) (upA ρ 31 f) (nI k) := by
    intro d
    induction d with
    | zero =>
      intro k f hk hf
      obtain rfl : k = 4 := by omega
      unfold wpl_X8_makeBest_12
      exact ⟨fun _ => hQ f hf, fun c => absurd (Int32.le_refl _) c⟩
    | succ d ih =>
      intro k f hk hf
      unfold wpl_X8_makeBest_12
      have c1 : ¬ nI 4 ≤ nI k := by simp (disch := omega) only [nI_add, nI_eq, nI_leI, nI_ltI, pk_sub, pk_mul, nI_clamp, nI_eqm1, nI_lt0, vp_in_iffN]; omega
      have c2 : vp_in (nI k) 4 := by simp (disch := omega) only [nI_add, nI_eq, nI_leI, nI_ltI, pk_sub, pk_mul, nI_clamp, nI_eqm1, nI_lt0, vp_in_iffN]; omega
      simp only [c1, c2, not_false_eq_true, true_implies, false_implies, true_and, nI_clamp (show k < 2 ^ 31 by omega), nI_add, up2_eq, upA_same, upA_upA]
      refine ih (k + 1) _ (by omega) (fun v hv => ?_)
      by_cases h : v = k
      · subst h; rw [upd_same]
      · rw [upd_ne h, hf v (by omega)]
  refine ⟨5, ?_⟩
  have := key 4 0 (ρ 31) (by omega) (fun v hv => by omega)
  have e : upA ρ 31 (ρ 31) = ρ := by
    funext d
    by_cases h : d = 31
    · subst h; rw [upA_same]
    · rw [upA_ne h]
  rw [e] at this
  exact this
theorem e_nL {τ : St} {i w : Nat} {Q : Int32 → St → Prop} (hw : w < 4) (h1 : τ 0 43 = nI w) (h2 : τ 0 37 = nI i) : wp_X11_neighbourLong τ Q = Q (nI i + fLs w) τ := by
  have hw4 : w = 0 ∨ w = 1 ∨ w = 2 ∨ w = 3 := by omega
  rcases hw4 with rfl | rfl | rfl | rfl <;> simp [wp_X11_neighbourLong, h1, h2, nI10, fLs, show ¬ nI 2 = nI 0 by decide, show ¬ nI 2 = nI 1 by decide, show ¬ nI 3 = nI 0 by decide, show ¬ nI 3 = nI 1 by decide]
theorem e_nS {τ : St} {j w : Nat} {Q : Int32 → St → Prop} (hw : w < 4) (h1 : τ 0 43 = nI w) (h2 : τ 0 38 = nI j) : wp_X11_neighbourSpread τ Q = Q (nI j + fSs w) τ := by
  have hw4 : w = 0 ∨ w = 1 ∨ w = 2 ∨ w = 3 := by omega
  rcases hw4 with rfl | rfl | rfl | rfl <;> simp [wp_X11_neighbourSpread, h1, h2, nI10, fSs, show ¬ nI 0 = nI 2 by decide, show ¬ nI 0 = nI 3 by decide, show ¬ nI 1 = nI 2 by decide, show ¬ nI 1 = nI 3 by decide, show ¬ nI 3 = nI 2 by decide]
theorem p_findsM {τ : St} {i j k0 : Nat} {Q : St → Prop} (hi : i < 11) (hj : j < 3) (h1 : τ 0 37 = nI i) (h2 : τ 0 38 = nI j) (hk : k0 ≤ 4) (hQ : ∀ w, First i j k0 w → Q (up2 (up2 τ 0 43 (nI w)) 0 40 (nI 0))) : wp_X11_finds τ (nI k0) Q := by
  have key : ∀ d k, k + d = 4 → k0 ≤ k → (∀ v, k0 ≤ v → v < k → ¬ onG i j v) → wpl_X11_finds_5 (nI k0) Q (d + 1) (up2 τ 0 43 (nI k)) := by
    intro d
    induction d with
    | zero =>
      intro k hk2 hk3 hn
      obtain rfl : k = 4 := by omega
      unfold wpl_X11_finds_5
      refine ⟨fun _ => ?_, fun c => absurd (Int32.le_refl _) c⟩
      exact hQ 4 ⟨hk, by omega, by omega, hn⟩
    | succ d ih =>
      intro k hk2 hk3 hn
      unfold wpl_X11_finds_5
      have c1 : ¬ nI 4 ≤ nI k := by simp (disch := omega) only [nI_add, nI_eq, nI_leI, nI_ltI, pk_sub, pk_mul, nI_clamp, nI_eqm1, nI_lt0, vp_in_iffN]; omega
      have e43 : up2 τ 0 43 (nI k) 0 43 = nI k := rfl
      have e37 : up2 τ 0 43 (nI k) 0 37 = nI i := h1
      have e38 : up2 τ 0 43 (nI k) 0 38 = nI j := h2
      have hw := onG_iff hi hj (show k < 4 by omega)
      have off : ¬ onG i j k → wpl_X11_finds_5 (nI k0) Q (d + 1) (up2 τ 0 43 (nI (k + 1))) := fun ho => ih (k + 1) (by omega) (by omega) (fun v v1 v2 => by
        by_cases hv : v = k
        · subst hv; exact ho
        · exact hn v v1 (by omega))
      rw [e_nL (show k < 4 by omega) e43 e37]
      simp only [e43, c1, not_false_eq_true, true_implies, false_implies, true_and, e_isIn, nI10, not_true_eq_false, and_true, up2_up2, nI_add]
      refine ⟨fun g => off (fun q => (hw.mp q) (Or.inl g)), fun g => ?_⟩
      rw [e_nS (show k < 4 by omega) e43 e38]
      refine ⟨fun g2 => ?_, fun g2 => ?_⟩
      · rw [e43, up2_up2, nI_add]
        exact off (fun q => (hw.mp q) (Or.inr g2))
      exact hQ k ⟨hk3, by omega, fun _ => hw.mpr (fun q => q.elim g g2), hn⟩
  exact ⟨4 - k0 + 1, key (4 - k0) k0 (by omega) (Nat.le_refl _) (fun v v1 v2 => by omega)⟩
theorem e_isOver {τ : St} {w an : Nat} {Q : Int32 → St → Prop} (hw : w ≤ 4) (ha : an ≤ 200) (h1 : τ 0 43 = nI w) (h2 : τ 0 41 = nI an) : wp_X11_isOver τ Q = (((w = 4 ∨ an = 200) → Q (nI 1) τ) ∧ (¬ (w = 4 ∨ an = 200) → Q (nI 0) τ)) := by
  have e1 : nI w = nI 4 ↔ w = 4 := nI_eq (by omega) (by decide)
  have e2 : nI an = nI 200 ↔ an = 200 := nI_eq (by omega) (by decide)
  simp only [wp_X11_isOver, h1, h2, e1, e2]
  by_cases q1 : w = 4 <;> by_cases q2 : an = 200 <;> simp [q1, q2]
