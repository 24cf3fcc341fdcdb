/-! text() -/
/-- a unit goes from the reading to the text -/
theorem e_copy4 {σ : St} {k j : Nat} {Q : St → Prop} (hk : k < 80) (hj : j < 80) : wp_X9_copyUnit_4 σ (nI k) (nI j) Q = Q (up2 (up2 (upA σ 9 (va_cpy (σ 5) (σ 9) (20 * k) (20 * j) 20)) 10 j (σ 6 k)) 11 j (σ 7 k)) := by
  have c1 : ¬ nI (k * 20) < nI 0 := by simp (disch := omega) only [nI_add, nI_eq, nI_leI, nI_ltI, pk_sub, pk_mul, nI_clamp, nI_eqm1, nI_lt0, vp_in_iffN]; omega
  have c2 : ¬ nI (j * 20) < nI 0 := by simp (disch := omega) only [nI_add, nI_eq, nI_leI, nI_ltI, pk_sub, pk_mul, nI_clamp, nI_eqm1, nI_lt0, vp_in_iffN]; omega
  have c3 : vp_in (nI k) 80 := by simp (disch := omega) only [nI_add, nI_eq, nI_leI, nI_ltI, pk_sub, pk_mul, nI_clamp, nI_eqm1, nI_lt0, vp_in_iffN]; omega
  have c4 : vp_in (nI j) 80 := by simp (disch := omega) only [nI_add, nI_eq, nI_leI, nI_ltI, pk_sub, pk_mul, nI_clamp, nI_eqm1, nI_lt0, vp_in_iffN]; omega
  have c5 : (nI 20).toNatClampNeg = 20 := nI_clamp (by decide)
  simp only [wp_X9_copyUnit_4, pk_mul, c1, c2, c3, c4, c5, nI_clamp (show k * 20 < 2 ^ 31 by omega), nI_clamp (show j * 20 < 2 ^ 31 by omega), nI_clamp (show k < 2 ^ 31 by omega), nI_clamp (show j < 2 ^ 31 by omega), not_false_eq_true, true_and, show k * 20 + 20 ≤ 1600 by omega, show j * 20 + 20 ≤ 1600 by omega, Nat.mul_comm 20]
theorem p_takeAll {σ : St} {u : Nat} {z : Nat → Nat} {b : Nat → Int32} {L : Nat → Nat → Int32} {Q : St → Prop} (hO : OkT u z b L) (hC : CR σ u z b L)
    (hQ : ∀ f9 f10 f11 : Nat → Int32, (∀ k, k < u → f10 k = nI (z k) ∧ f11 k = b k ∧ ∀ i, i < z k → f9 (20 * k + i) = L k i) → Q (up2 (upA (upA (upA σ 9 f9) 10 f10) 11 f11) 8 3 (nI u))) : wp_X9_takeAll_4 σ Q := by
  have hu := hO.1
  have key : ∀ d k (f9 f10 f11 : Nat → Int32), k + d = u → (∀ j, j < k → f10 j = nI (z j) ∧ f11 j = b j ∧ ∀ i, i < z j → f9 (20 * j + i) = L j i) → wpl_X9_takeAll_4_2 Q (d + 1) (upA (upA (upA σ 9 f9) 10 f10) 11 f11) (nI k) := by
    intro d
    induction d with
    | zero =>
      intro k f9 f10 f11 hk hf
      obtain rfl : k = u := by omega
      unfold wpl_X9_takeAll_4_2
      have e : (upA (upA (upA σ 9 f9) 10 f10) 11 f11) 4 3 = nI k := hC.1
      rw [e]
      exact ⟨fun _ => hQ f9 f10 f11 hf, fun c => absurd (Int32.le_refl _) c⟩
    | succ d ih =>
      intro k f9 f10 f11 hk hf
      unfold wpl_X9_takeAll_4_2
      have e : (upA (upA (upA σ 9 f9) 10 f10) 11 f11) 4 3 = nI u := hC.1
      have c1 : ¬ nI u ≤ nI k := by simp (disch := omega) only [nI_add, nI_eq, nI_leI, nI_ltI, pk_sub, pk_mul, nI_clamp, nI_eqm1, nI_lt0, vp_in_iffN]; omega
      simp only [e, c1, not_false_eq_true, true_implies, false_implies, true_and, nI_add]
      rw [e_copy4 (by omega) (by omega)]
      have es : up2 (up2 (upA (upA (upA (upA σ 9 f9) 10 f10) 11 f11) 9 (va_cpy (upA (upA (upA σ 9 f9) 10 f10) 11 f11 5) (upA (upA (upA σ 9 f9) 10 f10) 11 f11 9) (20 * k) (20 * k) 20)) 10 k (upA (upA (upA σ 9 f9) 10 f10) 11 f11 6 k)) 11 k (upA (upA (upA σ 9 f9) 10 f10) 11 f11 7 k) = upA (upA (upA σ 9 (va_cpy (σ 5) f9 (20 * k) (20 * k) 20)) 10 (upd f10 k (σ 6 k))) 11 (upd f11 k (σ 7 k)) := by
        funext c
        by_cases h11 : c = 11
        · subst h11; rfl
        · by_cases h10 : c = 10
          · subst h10; rfl
          · by_cases h9 : c = 9
            · subst h9; rfl
            · simp only [up2_ne h11, up2_ne h10, upA_ne h11, upA_ne h10, upA_ne h9]
      rw [es]
      obtain ⟨q1, q2, q3⟩ := hC.2 k (by omega)
      obtain ⟨o1, o2, o3, o4⟩ := hO.2 k (by omega)
      refine ih (k + 1) _ _ _ (by omega) (fun j hj => ?_)
      by_cases hjk : j = k
      · subst hjk
        refine ⟨by rw [upd_same, q1], by rw [upd_same, q2], fun i hi => ?_⟩
        rw [pk_cpy_in (by omega) (by omega), show 20 * j + (20 * j + i - 20 * j) = 20 * j + i by omega]
        exact q3 i hi
      · obtain ⟨r1, r2, r3⟩ := hf j (by omega)
        have hz := (hO.2 j (by omega)).2.1
        refine ⟨by rw [upd_ne hjk, r1], by rw [upd_ne hjk, r2], fun i hi => ?_⟩
        rw [pk_cpy_out (by omega)]
        exact r3 i hi
  refine ⟨u + 1, ?_⟩
  have := key u 0 (σ 9) (σ 10) (σ 11) (by omega) (fun j hj => by omega)
  have e : upA (upA (upA σ 9 (σ 9)) 10 (σ 10)) 11 (σ 11) = σ := by
    funext c
    by_cases h11 : c = 11
    · subst h11; rfl
    · by_cases h10 : c = 10
      · subst h10; rfl
      · by_cases h9 : c = 9
        · subst h9; rfl
        · simp only [upA_ne h11, upA_ne h10, upA_ne h9]
  rw [e] at this
  exact this
/-! the reference's: takes, words -/
theorem p_takes {τ : St} {k j zk : Nat} {Q : St → Prop} (hk : k < 80) (hj : j < 80) (hz : zk ≤ 20) (h6 : τ 6 k = nI zk)
    (hQ : ∀ f2 : Nat → Int32, (∀ i, i < zk → f2 (20 * j + i) = τ 7 (20 * k + i)) → (∀ q, (q < 20 * j ∨ 20 * j + 20 ≤ q) → f2 q = τ 2 q) → Q (upA (up2 (up2 τ 1 j (nI zk)) 3 j (τ 8 k)) 2 f2)) : wp_X11_takes τ (nI k) (nI j) Q := by
  have c3 : vp_in (nI k) 80 := by simp (disch := omega) only [nI_add, nI_eq, nI_leI, nI_ltI, pk_sub, pk_mul, nI_clamp, nI_eqm1, nI_lt0, vp_in_iffN]; omega
  have c4 : vp_in (nI j) 80 := by simp (disch := omega) only [nI_add, nI_eq, nI_leI, nI_ltI, pk_sub, pk_mul, nI_clamp, nI_eqm1, nI_lt0, vp_in_iffN]; omega
  simp only [wp_X11_takes, c3, c4, nI_clamp (show k < 2 ^ 31 by omega), nI_clamp (show j < 2 ^ 31 by omega), true_and, h6]
  have key : ∀ d i (f2 : Nat → Int32), i + d = zk → (∀ q, q < i → f2 (20 * j + q) = τ 7 (20 * k + q)) → (∀ q, (q < 20 * j ∨ 20 * j + 20 ≤ q) → f2 q = τ 2 q) → wpl_X11_takes_26 (nI k) (nI j) Q (d + 1) (upA (up2 (up2 τ 1 j (nI zk)) 3 j (τ 8 k)) 2 f2) (nI i) := by
    intro d
    induction d with
    | zero =>
      intro i f2 hi h1 h2
      obtain rfl : i = zk := by omega
      unfold wpl_X11_takes_26
      refine ⟨c4, fun _ => hQ f2 h1 h2, fun c => ?_⟩
      refine absurd ?_ c
      rw [nI_clamp (show j < 2 ^ 31 by omega)]
      show upd (τ 1) j (nI i) j ≤ nI i
      rw [upd_same]
      exact Int32.le_refl _
    | succ d ih =>
      intro i f2 hi h1 h2
      unfold wpl_X11_takes_26
      have e1 : upA (up2 (up2 τ 1 j (nI zk)) 3 j (τ 8 k)) 2 f2 1 j = nI zk := by
        show upd (τ 1) j (nI zk) j = _
        rw [upd_same]
      have c1 : ¬ nI zk ≤ nI i := by simp (disch := omega) only [nI_add, nI_eq, nI_leI, nI_ltI, pk_sub, pk_mul, nI_clamp, nI_eqm1, nI_lt0, vp_in_iffN]; omega
      have c5 : vp_in (nI (20 * k + i)) 1600 := by simp (disch := omega) only [nI_add, nI_eq, nI_leI, nI_ltI, pk_sub, pk_mul, nI_clamp, nI_eqm1, nI_lt0, vp_in_iffN]; omega
      have c6 : vp_in (nI (20 * j + i)) 1600 := by simp (disch := omega) only [nI_add, nI_eq, nI_leI, nI_ltI, pk_sub, pk_mul, nI_clamp, nI_eqm1, nI_lt0, vp_in_iffN]; omega
      simp only [c4, nI_clamp (show j < 2 ^ 31 by omega), e1, c1, pk_mul, nI_add, c5, c6, not_false_eq_true, true_implies, false_implies, true_and, nI_clamp (show 20 * j + i < 2 ^ 31 by omega), nI_clamp (show 20 * k + i < 2 ^ 31 by omega), up2_eq (c := 2), upA_same, upA_upA]
      have e7 : upA (up2 (up2 τ 1 j (nI zk)) 3 j (τ 8 k)) 2 f2 7 (20 * k + i) = τ 7 (20 * k + i) := rfl
      rw [e7]
      refine ih (i + 1) _ (by omega) (fun q hq => ?_) (fun q hq => ?_)
      · by_cases hqi : q = i
        · subst hqi; rw [upd_same]
        · rw [upd_ne (by omega), h1 q (by omega)]
      · rw [upd_ne (by omega), h2 q hq]
  refine ⟨zk + 1, ?_⟩
  have := key zk 0 (τ 2) (by omega) (fun q hq => by omega) (fun q _ => rfl)
  have e : upA (up2 (up2 τ 1 j (nI zk)) 3 j (τ 8 k)) 2 (τ 2) = up2 (up2 τ 1 j (nI zk)) 3 j (τ 8 k) := by
    funext c
    by_cases h2 : c = 2
    · subst h2; rfl
    · rw [upA_ne h2]
  rw [e] at this
  exact this
theorem wn_le (b : Nat → Int32) : ∀ k, wn b k ≤ k
  | 0 => Nat.le_refl 0
  | k + 1 => by
    have := wn_le b k
    simp only [wn]
    split <;> omega
theorem p_words {τ : St} {u : Nat} {Q : St → Prop} (hu : u ≤ 80) (h0 : τ 0 0 = nI u) (hQ : ∀ f4 : Nat → Int32, (∀ k, k < u → f4 k = nI (wn (τ 3) k)) → Q (upA τ 4 f4)) : wp_X11_words τ Q := by
  have key : ∀ d k (f4 : Nat → Int32), k + d = u → (∀ q, q < k → f4 q = nI (wn (τ 3) q)) → wpl_X11_words_4 Q (d + 1) (upA τ 4 f4) (nI (wn (τ 3) (k - 1))) (nI k) := by
    intro d
    induction d with
    | zero =>
      intro k f4 hk hf
      obtain rfl : k = u := by omega
      unfold wpl_X11_words_4
      have e : upA τ 4 f4 0 0 = nI k := h0
      rw [e]
      exact ⟨fun _ => hQ f4 hf, fun c => absurd (Int32.le_refl _) c⟩
    | succ d ih =>
      intro k f4 hk hf
      unfold wpl_X11_words_4
      have e : upA τ 4 f4 0 0 = nI u := h0
      have e3 : upA τ 4 f4 3 = τ 3 := rfl
      have c1 : ¬ nI u ≤ nI k := by simp (disch := omega) only [nI_add, nI_eq, nI_leI, nI_ltI, pk_sub, pk_mul, nI_clamp, nI_eqm1, nI_lt0, vp_in_iffN]; omega
      have c2 : vp_in (nI k) 80 := by simp (disch := omega) only [nI_add, nI_eq, nI_leI, nI_ltI, pk_sub, pk_mul, nI_clamp, nI_eqm1, nI_lt0, vp_in_iffN]; omega
      have step : ∀ v, v = nI (wn (τ 3) k) → wpl_X11_words_4 Q (d + 1) (upA τ 4 (upd f4 k v)) v (nI (k + 1)) := by
        intro v hv
        have := ih (k + 1) (upd f4 k v) (by omega) (fun q hq => by
          by_cases hqk : q = k
          · subst hqk; rw [upd_same, hv]
          · rw [upd_ne hqk, hf q (by omega)])
        rw [Nat.add_sub_cancel, ← hv] at this
        exact this
      simp only [e, e3, c1, c2, nI_add, not_false_eq_true, true_implies, false_implies, true_and, nI_clamp (show k < 2 ^ 31 by omega), up2_eq (c := 4), upA_same, upA_upA]
      refine ⟨fun q => ?_, fun q => ?_⟩
      · obtain rfl : k = 0 := by
          rw [nI_leI (by omega) (by decide)] at q; omega
        exact step _ rfl
      · have hk0 : 0 < k := by
          rw [nI_leI (by omega) (by decide)] at q; omega
        obtain ⟨m, rfl⟩ : ∃ m, k = m + 1 := ⟨k - 1, by omega⟩
        rw [pk_sub (show 1 ≤ m + 1 by omega), Nat.add_sub_cancel, nI_clamp (show m < 2 ^ 31 by omega)]
        refine ⟨by simp (disch := omega) only [nI_add, nI_eq, nI_leI, nI_ltI, pk_sub, pk_mul, nI_clamp, nI_eqm1, nI_lt0, vp_in_iffN]; omega, fun q45 => step _ ?_, fun q45 => step _ ?_⟩
        · simp [wn, q45]
        · simp [wn, q45]
  refine ⟨u + 1, ?_⟩
  have := key u 0 (τ 4) (by omega) (fun q hq => by omega)
  have e : upA τ 4 (τ 4) = τ := by
    funext c
    by_cases h2 : c = 4
    · subst h2; rfl
    · rw [upA_ne h2]
  rw [e] at this
  exact this
