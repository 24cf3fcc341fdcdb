theorem up2_self {σ : St} {c i : Nat} {v : Int32} (h : σ c i = v) : up2 σ c i v = σ := by
  subst h
  funext d
  by_cases hd : d = c
  · subst hd; rw [up2_same, upd_self]
  · rw [up2_ne hd]
/-- an answer, behind which the lead is s -/
theorem ans_core {σ τ : St} (h : Rel σ τ) {i j ld an wo w : Nat} {s s1 s2 x : Int32} (h1 : σ 30 1 = nI 1) (h2 : τ 0 36 = nI 1) (hi : i < 11) (hj : j < 3) (h3 : σ 30 2 = nI i) (h4 : τ 0 37 = nI i) (h5 : σ 30 3 = nI j) (h6 : τ 0 38 = nI j) (l1 : 1 ≤ ld) (l2 : ld ≤ 9) (h7 : σ 30 4 = nI ld) (h8 : τ 0 39 = nI ld) (ha : an < 200) (hwo : wo ≤ an) (h11 : σ 30 8 = nI wo) (h12 : τ 0 42 = nI wo) (hw : w < 4) (h13 : τ 0 43 = nI w) (h16 : σ 30 5 = nI w) (h17 : onG i j w) (h18 : ∀ v, v < w → σ 31 v = nI 1 ∨ ¬ onG i j v) (h19 : ∀ v, w ≤ v → v < 4 → σ 31 v = nI 0)
    (hs : s1 + s2 = s) (hf : (∃ a, a ≤ ld ∧ s = nI a) ∨ ∃ b, 0 < b ∧ b ≤ ld ∧ s = nI 0 - nI b) (Z : Int32 → St → Prop) (hZ : ∀ r σ', wpj_X11_answer_40 x s2 s1 (fun r' τ' => r = r' ∧ Rel σ' τ') (up2 τ 0 41 (nI (an + 1))) → Z r σ') :
    wp_X8_settle (up2 (up2 σ 30 7 (nI (an + 1))) 30 6 s) (fun r3 σ4 => ((σ4 30 7) < nI 200 → ((¬ (σ4 30 5) = (-1) → Z r3 σ4) ∧ ((σ4 30 5) = (-1) → Z (nI 3) σ4))) ∧ (¬ (σ4 30 7) < nI 200 → Z (nI 3) (up2 σ4 30 5 (-1)))) := by
  obtain ⟨hT, hF, hX, hMe, hP, hR⟩ := h
  have e4 : (up2 (up2 σ 30 7 (nI (an + 1))) 30 6 s) 30 4 = nI ld := h7
  have e6 : (up2 (up2 σ 30 7 (nI (an + 1))) 30 6 s) 30 6 = s := rfl
  have e5 : (up2 (up2 σ 30 7 (nI (an + 1))) 30 6 s) 30 5 = nI w := h16
  have e8 : (up2 (up2 σ 30 7 (nI (an + 1))) 30 6 s) 30 8 = nI wo := h11
  have m1 : ¬ nI w = (-1 : Int32) := fun e => (nI_eqm1 (show w < 2 ^ 31 by omega)).mp e
  have hv : vp_in (nI w) 4 := by simp (disch := omega) only [nI_add, nI_eq, nI_leI, nI_ltI, pk_sub, pk_mul, nI_clamp, nI_eqm1, nI_lt0, vp_in_iffN]; omega
  have g39 : (up2 τ 0 41 (nI (an + 1))) 0 39 = nI ld := h8
  have g42 : (up2 τ 0 41 (nI (an + 1))) 0 42 = nI wo := h12
  have g43 : (up2 τ 0 41 (nI (an + 1))) 0 43 = nI w := h13
  have an2 : nI (an + 1) < nI 200 ↔ an + 1 < 200 := nI_ltI (by omega) (by decide)
  unfold wp_X8_settle
  simp only [e4, e6, e5, e8, nI_add]
  by_cases cA : s = nI ld
  · -- the best won
    have p1 : nI 0 ≤ nI ld := by simp (disch := omega) only [nI_add, nI_eq, nI_leI, nI_ltI, pk_sub, pk_mul, nI_clamp, nI_eqm1, nI_lt0, vp_in_iffN]; omega
    have p2 : ¬ nI ld ≤ nI 0 := by simp (disch := omega) only [nI_add, nI_eq, nI_leI, nI_ltI, pk_sub, pk_mul, nI_clamp, nI_eqm1, nI_lt0, vp_in_iffN]; omega
    simp only [cA, p1, p2, if_true, show nI ld ≤ nI ld from Int32.le_refl _, hv, not_true_eq_false, not_false_eq_true, true_implies, false_implies, true_and, and_true, nI_clamp (show w < 2 ^ 31 by omega)]
    refine p_nextWay (k0 := w + 1) hi hj h3 h5 (fun v hv2 => ?_) (fun v v1 v2 => ?_) (by omega) (fun w' hw' => ?_)
    · show upd (σ 31) w (nI 1) v = nI 1 ∨ _
      by_cases hvw : v = w
      · subst hvw; exact Or.inl upd_same
      · rw [upd_ne hvw]; exact h18 v (by omega)
    · show upd (σ 31) w (nI 1) v = nI 0
      rw [upd_ne (by omega)]
      exact h19 v (by omega) v2
    · have model : ∀ r σ', (∀ τ', τ' = up2 (up2 (up2 (up2 (up2 τ 0 41 (nI (an + 1))) 0 40 s) 0 42 (nI (wo + 1))) 0 43 (nI w')) 0 40 (nI 0) → ((w' = 4 ∨ an + 1 = 200) → r = nI 3 ∧ Rel σ' τ') ∧ (¬ (w' = 4 ∨ an + 1 = 200) → r = nI 1 ∧ Rel σ' τ')) → Z r σ' := by
        intro r σ' hh
        apply hZ
        unfold wpj_X11_answer_40
        simp only [hs, g39, g42, g43, cA, not_true_eq_false, true_implies, false_implies, true_and, nI_add]
        refine p_findsM (i := i) (j := j) (k0 := w + 1) hi hj h4 h6 (by omega) (fun w'' hw'' => ?_)
        obtain rfl := hw'.uniq hw''
        have o := e_isOver (τ := up2 (up2 (up2 (up2 (up2 τ 0 41 (nI (an + 1))) 0 40 (nI ld)) 0 42 (nI (wo + 1))) 0 43 (nI w')) 0 40 (nI 0)) (w := w') (an := an + 1) hw'.2.1 (by omega) rfl rfl (Q := fun r22 σ23 => (r22 = nI 0 → r = nI 1 ∧ Rel σ' σ23) ∧ (¬ r22 = nI 0 → r = nI 3 ∧ Rel σ' σ23))
        rw [o]
        have hh := hh _ rfl
        rw [cA] at hh
        simp only [nI10, not_true_eq_false, not_false_eq_true, true_implies, false_implies, true_and, and_true]
        exact hh
      have rel : ∀ wy : Int32, (wy = if w' = 4 ∨ an + 1 = 200 then -1 else nI w') → Rel (up2 (up2 (up2 (up2 (up2 (up2 σ 30 7 (nI (an + 1))) 30 6 (nI ld)) 30 6 (nI 0)) 30 8 (nI (wo + 1))) 31 w (nI 1)) 30 5 wy) (up2 (up2 (up2 (up2 (up2 τ 0 41 (nI (an + 1))) 0 40 s) 0 42 (nI (wo + 1))) 0 43 (nI w')) 0 40 (nI 0)) := by
        intro wy hwy
        refine ⟨hT, hF, hX, hMe, hP, Or.inr ⟨i, j, ld, an + 1, wo + 1, w', h1, h2, hi, hj, h3, h4, h5, h6, l1, l2, h7, h8, by omega, by omega, rfl, rfl, rfl, rfl, hw'.2.1, rfl, rfl, Or.inl ⟨0, by omega, rfl⟩, hwy, hw'.2.2.1, fun v v1 => ?_, fun _ v v1 v2 => ?_⟩⟩
        · show upd (σ 31) w (nI 1) v = nI 1 ∨ _
          by_cases hvw : v = w
          · subst hvw; exact Or.inl upd_same
          · rw [upd_ne hvw]
            rcases Nat.lt_or_ge v w with q | q
            · exact h18 v q
            · exact Or.inr (hw'.2.2.2 v (by omega) v1)
        · show upd (σ 31) w (nI 1) v = nI 0
          have := hw'.1
          rw [upd_ne (by omega)]
          exact h19 v (by omega) v2
      show (nI (an + 1) < nI 200 → _) ∧ (¬ nI (an + 1) < nI 200 → _)
      rw [an2]
      refine ⟨fun q => ⟨fun q2 => model _ _ (fun τ' ht => ?_), fun q2 => model _ _ (fun τ' ht => ?_)⟩, fun q => model _ _ (fun τ' ht => ?_)⟩
      · subst ht
        have hw4 : ¬ w' = 4 := fun e => q2 (by show (if w' = 4 then (-1 : Int32) else nI w') = -1; rw [if_pos e])
        exact ⟨fun o => absurd o (by omega), fun _ => ⟨rfl, rel _ (by rw [if_neg hw4, if_neg (by omega)])⟩⟩
      · subst ht
        have hw4 : w' = 4 := by
          by_cases e : w' = 4
          · exact e
          · have q3 : (if w' = 4 then (-1 : Int32) else nI w') = -1 := q2
            rw [if_neg e] at q3
            exact absurd q3 (fun z => (nI_eqm1 (show w' < 2 ^ 31 by have := hw'.2.1; omega)).mp z)
        exact ⟨fun _ => ⟨rfl, rel _ (by rw [if_pos hw4, if_pos (Or.inl hw4)])⟩, fun o => absurd (Or.inl hw4) o⟩
      · subst ht
        have h200 : an + 1 = 200 := by omega
        refine ⟨fun _ => ⟨rfl, ?_⟩, fun o => absurd (Or.inr h200) o⟩
        rw [up2_up2]
        exact rel _ (by rw [if_pos (Or.inr h200)])
  · by_cases cB : s = nI 0 - nI ld
    · -- the neighbour won
      obtain ⟨i', j', hi', hj', n1, n2⟩ := nb_ex hi hj hw h17
      have sl := sgn6 (show 0 < ld by omega) (show ld < 2 ^ 30 by omega)
      have p1 : ¬ nI 0 ≤ nI 0 - nI ld := Int32.not_le.mpr sl
      have p2 : nI 0 - nI ld ≤ nI 0 := Int32.le_of_lt sl
      simp only [cB, p1, p2, sgn3, if_false, show nI ld ≤ nI ld from Int32.le_refl _, not_true_eq_false, not_false_eq_true, true_implies, false_implies, true_and, and_true, wp_X8_longOn, wp_X8_spreadOn]
      refine ⟨hv, ?_⟩
      show vp_in (σ 30 5) 4 ∧ wp_X8_makeBest _ (σ 30 2 + fLs (nI w).toNatClampNeg) (σ 30 3 + fSs (σ 30 5).toNatClampNeg) _
      rw [h16, nI_clamp (show w < 2 ^ 31 by omega), h3, h5, n1, n2]
      refine ⟨hv, p_makeBest (fun f hf0 => ?_)⟩
      refine p_nextWay (k0 := 0) hi' hj' rfl rfl (fun v hv2 => by omega) (fun v _ v2 => hf0 v v2) (by omega) (fun w' hw' => ?_)
      have model : ∀ r σ', (∀ τ', τ' = up2 (up2 (up2 (up2 (up2 (up2 (up2 τ 0 41 (nI (an + 1))) 0 40 s) 0 42 (nI (wo + 1))) 0 37 (nI i')) 0 38 (nI j')) 0 43 (nI w')) 0 40 (nI 0) → ((w' = 4 ∨ an + 1 = 200) → r = nI 3 ∧ Rel σ' τ') ∧ (¬ (w' = 4 ∨ an + 1 = 200) → r = nI 2 ∧ Rel σ' τ')) → Z r σ' := by
        intro r σ' hh
        apply hZ
        unfold wpj_X11_answer_40
        rw [cB] at hs hh
        have nq : ¬ nI 0 - nI ld = nI ld := fun e => sgn7 (show 0 < ld by omega) (show ld < 2 ^ 30 by omega) (show ld < 2 ^ 31 by omega) e.symm
        simp only [hs, g39, g42, g43, nq, sgn4, not_true_eq_false, not_false_eq_true, true_implies, false_implies, true_and, and_true, nI_add]
        rw [e_nL (τ := up2 (up2 (up2 τ 0 41 (nI (an + 1))) 0 40 (nI 0 - nI ld)) 0 42 (nI (wo + 1))) (i := i) hw h13 h4]
        rw [e_nS (τ := up2 (up2 (up2 τ 0 41 (nI (an + 1))) 0 40 (nI 0 - nI ld)) 0 42 (nI (wo + 1))) (j := j) hw h13 h6, n1, n2]
        refine p_findsM (i := i') (j := j') (k0 := 0) hi' hj' rfl rfl (by omega) (fun w'' hw'' => ?_)
        obtain rfl := hw'.uniq hw''
        rw [e_isOver (τ := up2 (up2 (up2 (up2 (up2 (up2 (up2 τ 0 41 (nI (an + 1))) 0 40 (nI 0 - nI ld)) 0 42 (nI (wo + 1))) 0 37 (nI i')) 0 38 (nI j')) 0 43 (nI w')) 0 40 (nI 0)) (w := w') (an := an + 1) hw'.2.1 (by omega) rfl rfl]
        simp only [nI10, not_true_eq_false, not_false_eq_true, true_implies, false_implies, true_and, and_true]
        exact hh _ rfl
      have rel : ∀ (ρ : St) (wy : Int32), ρ = up2 (upA (up2 (up2 (up2 (up2 (up2 (up2 σ 30 7 (nI (an + 1))) 30 6 (nI 0 - nI ld)) 30 6 (nI 0)) 30 8 (nI (wo + 1))) 30 2 (nI i')) 30 3 (nI j')) 31 f) 30 5 wy → (wy = if w' = 4 ∨ an + 1 = 200 then -1 else nI w') → Rel ρ (up2 (up2 (up2 (up2 (up2 (up2 (up2 τ 0 41 (nI (an + 1))) 0 40 s) 0 42 (nI (wo + 1))) 0 37 (nI i')) 0 38 (nI j')) 0 43 (nI w')) 0 40 (nI 0)) := by
        intro ρ wy hρ hwy
        subst hρ
        exact ⟨hT, hF, hX, hMe, hP, Or.inr ⟨i', j', ld, an + 1, wo + 1, w', h1, h2, hi', hj', rfl, rfl, rfl, rfl, l1, l2, h7, h8, by omega, by omega, rfl, rfl, rfl, rfl, hw'.2.1, rfl, rfl, Or.inl ⟨0, by omega, rfl⟩, hwy, hw'.2.2.1, fun v v1 => Or.inr (hw'.2.2.2 v (by omega) v1), fun _ v v1 v2 => hf0 v v2⟩⟩
      show (nI (an + 1) < nI 200 → _) ∧ (¬ nI (an + 1) < nI 200 → _)
      rw [an2]
      refine ⟨fun q => ⟨fun q2 => model _ _ (fun τ' ht => ?_), fun q2 => model _ _ (fun τ' ht => ?_)⟩, fun q => model _ _ (fun τ' ht => ?_)⟩
      · subst ht
        have hw4 : ¬ w' = 4 := fun e => q2 (by show (if w' = 4 then (-1 : Int32) else nI w') = -1; rw [if_pos e])
        exact ⟨fun o => absurd o (by omega), fun _ => ⟨rfl, rel _ _ rfl (by rw [if_neg hw4, if_neg (by omega)])⟩⟩
      · subst ht
        have hw4 : w' = 4 := by
          by_cases e : w' = 4
          · exact e
          · have q3 : (if w' = 4 then (-1 : Int32) else nI w') = -1 := q2
            rw [if_neg e] at q3
            exact absurd q3 (fun z => (nI_eqm1 (show w' < 2 ^ 31 by have := hw'.2.1; omega)).mp z)
        exact ⟨fun _ => ⟨rfl, rel _ _ rfl (by rw [if_pos hw4, if_pos (Or.inl hw4)])⟩, fun o => absurd (Or.inl hw4) o⟩
      · subst ht
        have h200 : an + 1 = 200 := by omega
        refine ⟨fun _ => ⟨rfl, ?_⟩, fun o => absurd (Or.inr h200) o⟩
        rw [up2_up2]
        exact rel _ _ rfl (by rw [if_pos (Or.inr h200)])
    · -- it goes on
      have small : ¬ nI ld ≤ (if nI 0 ≤ s then s else nI 0 - s) := by
        rcases hf with ⟨a, a1, rfl⟩ | ⟨b, b1, b2, rfl⟩
        · have : a ≠ ld := fun e => cA (by rw [e])
          rw [if_pos (by simp (disch := omega) only [nI_add, nI_eq, nI_leI, nI_ltI, pk_sub, pk_mul, nI_clamp, nI_eqm1, nI_lt0, vp_in_iffN]; omega)]
          simp (disch := omega) only [nI_add, nI_eq, nI_leI, nI_ltI, pk_sub, pk_mul, nI_clamp, nI_eqm1, nI_lt0, vp_in_iffN]
          omega
        · have : b ≠ ld := fun e => cB (by rw [e])
          rw [if_neg (Int32.not_le.mpr (sgn6 b1 (by omega))), sgn3]
          simp (disch := omega) only [nI_add, nI_eq, nI_leI, nI_ltI, pk_sub, pk_mul, nI_clamp, nI_eqm1, nI_lt0, vp_in_iffN]
          omega
      have form : (∃ x, x < ld ∧ s = nI x) ∨ ∃ y, 0 < y ∧ y < ld ∧ s = nI 0 - nI y := by
        rcases hf with ⟨a, a1, rfl⟩ | ⟨b, b1, b2, rfl⟩
        · have : a ≠ ld := fun e => cA (by rw [e])
          exact Or.inl ⟨a, by omega, rfl⟩
        · have : b ≠ ld := fun e => cB (by rw [e])
          exact Or.inr ⟨b, b1, by omega, rfl⟩
      simp only [small, not_false_eq_true, true_implies, false_implies, true_and]
      have model : ∀ r σ', ((an + 1 = 200 → r = nI 3 ∧ Rel σ' (up2 (up2 τ 0 41 (nI (an + 1))) 0 40 s)) ∧ (¬ an + 1 = 200 → r = nI 0 ∧ Rel σ' (up2 (up2 τ 0 41 (nI (an + 1))) 0 40 s))) → Z r σ' := by
        intro r σ' hh
        apply hZ
        unfold wpj_X11_answer_40
        simp only [hs, g39, cA, sgn4, cB, not_true_eq_false, not_false_eq_true, true_implies, false_implies, true_and, and_true]
        rw [e_isOver (τ := up2 (up2 τ 0 41 (nI (an + 1))) 0 40 s) (w := w) (an := an + 1) (by omega) (by omega) h13 rfl]
        simp only [show ¬ w = 4 by omega, false_or, nI10, not_true_eq_false, not_false_eq_true, true_implies, false_implies, true_and, and_true]
        exact hh
      have rel : ∀ (ρ : St) (wy : Int32), ρ = up2 (up2 (up2 σ 30 7 (nI (an + 1))) 30 6 s) 30 5 wy → (wy = if w = 4 ∨ an + 1 = 200 then -1 else nI w) → Rel ρ (up2 (up2 τ 0 41 (nI (an + 1))) 0 40 s) := by
        intro ρ wy hρ hwy
        subst hρ
        exact ⟨hT, hF, hX, hMe, hP, Or.inr ⟨i, j, ld, an + 1, wo, w, h1, h2, hi, hj, h3, h4, h5, h6, l1, l2, h7, h8, by omega, by omega, rfl, rfl, h11, h12, by omega, h13, rfl, form, hwy, fun _ => h17, h18, fun _ => h19⟩⟩
      show (nI (an + 1) < nI 200 → _) ∧ (¬ nI (an + 1) < nI 200 → _)
      rw [an2]
      refine ⟨fun q => ⟨fun q2 => model _ _ ⟨fun o => by omega, fun _ => ⟨rfl, rel _ (nI w) ?_ (by rw [if_neg (by omega)])⟩⟩, fun q2 => absurd q2 m1⟩, fun q => model _ _ ⟨fun _ => ⟨rfl, rel _ _ rfl (by rw [if_pos (Or.inr (by omega))])⟩, fun o => absurd (show an + 1 = 200 by omega) o⟩⟩
      exact (up2_self e5).symm
theorem op_answer {σ τ : St} (h : Rel σ τ) (x : Int32) : wp_X10_answer σ x (fun r σ' => wp_X11_answer τ x (fun r' τ' => r = r' ∧ Rel σ' τ')) := by
  obtain ⟨hT, hF, hX, hMe, hP, hR⟩ := id h
  unfold wp_X10_answer wp_X8_hear
  rcases hR with ⟨h1, h2, h3⟩ | ⟨i, j, ld, an, wo, w, h1, h2, hi, hj, h3, h4, h5, h6, l1, l2, h7, h8, ha, hwo, h9, h10, h11, h12, hw, h13, h14, h15, h16, h17, h18, h19⟩
  · simp [h2, h3, h, wp_X11_answer]
  · by_cases ov : w = 4 ∨ an = 200
    · rw [if_pos ov] at h16
      simp only [h16, wp_X11_answer, h2, nI10, e_isOver hw ha h13 h10, ov, not_true_eq_false, not_false_eq_true, true_implies, false_implies, true_and, and_true]
      exact h
    · rw [if_neg ov] at h16
      have m1 : ¬ nI w = (-1 : Int32) := fun e => (nI_eqm1 (show w < 2 ^ 31 by omega)).mp e
      simp only [h16, m1, h9, nI_add, not_true_eq_false, not_false_eq_true, true_implies, false_implies, true_and, and_true]
      refine ⟨fun x0 => ?_, fun x0 => ?_⟩
      · refine ans_core h (s1 := τ 0 40) (s2 := -1) (x := x) h1 h2 hi hj h3 h4 h5 h6 l1 l2 h7 h8 (by omega) hwo h11 h12 (by omega) h13 h16 (h17 (by omega)) h18 (h19 (by omega)) (by rw [← h14]) ?_ _ (fun r σ' hm => ?_)
        · show (∃ a, a ≤ ld ∧ σ 30 6 + (-1) = nI a) ∨ ∃ b, 0 < b ∧ b ≤ ld ∧ σ 30 6 + (-1) = nI 0 - nI b
          rcases h15 with ⟨a, a1, e⟩ | ⟨b, b1, b2, e⟩
          · by_cases a0 : a = 0
            · subst a0
              exact Or.inr ⟨1, by omega, by omega, by rw [e]; decide⟩
            · exact Or.inl ⟨a - 1, by omega, by rw [e, nI_i_m1 (by omega)]⟩
          · exact Or.inr ⟨b + 1, by omega, by omega, by rw [e, sgn2]⟩
        · simp only [wp_X11_answer, h2, nI10, e_isOver hw ha h13 h10, ov, x0, h10, nI_add, not_true_eq_false, not_false_eq_true, true_implies, false_implies, true_and, and_true]
          exact hm
      · refine ans_core h (s1 := τ 0 40) (s2 := nI 1) (x := x) h1 h2 hi hj h3 h4 h5 h6 l1 l2 h7 h8 (by omega) hwo h11 h12 (by omega) h13 h16 (h17 (by omega)) h18 (h19 (by omega)) (by rw [← h14]) ?_ _ (fun r σ' hm => ?_)
        · show (∃ a, a ≤ ld ∧ σ 30 6 + nI 1 = nI a) ∨ ∃ b, 0 < b ∧ b ≤ ld ∧ σ 30 6 + nI 1 = nI 0 - nI b
          rcases h15 with ⟨a, a1, e⟩ | ⟨b, b1, b2, e⟩
          · exact Or.inl ⟨a + 1, by omega, by rw [e, nI_add]⟩
          · by_cases b0 : b = 1
            · subst b0
              exact Or.inl ⟨0, by omega, by rw [e]; decide⟩
            · exact Or.inr ⟨b - 1, by omega, by omega, by rw [e, sgn1 b1]⟩
        · simp only [wp_X11_answer, h2, nI10, e_isOver hw ha h13 h10, ov, x0, h10, nI_add, not_true_eq_false, not_false_eq_true, true_implies, false_implies, true_and, and_true]
          exact hm
