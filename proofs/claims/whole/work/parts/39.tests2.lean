theorem op_tested {σ τ : St} (h : Rel σ τ) (x : Int32) : wp_X10_tested σ x (fun r σ' => wp_X11_tested τ x (fun r' τ' => r = r' ∧ Rel σ' τ')) := by
  obtain ⟨hT, hF, hX, hMe, hP, hR⟩ := id h
  simp only [wp_X10_tested, wp_X8_tell, wp_X11_tested]
  rcases hR with ⟨h1, h2, h3⟩ | ⟨i, j, ld, an, wo, w, h1, h2, hi, hj, h3, h4, h5, h6, l1, l2, h7, h8, ha, hwo, h9, h10, h11, h12, hw, h13, h14, h15, h16, h17, h18, h19⟩
  · simp [h1, h3, h]
  · by_cases x0 : x = nI 0
    · simp [x0, h1, h2, nI10, h3, h4, h]
    · by_cases x1 : x = nI 1
      · simp [x1, h1, h2, nI10, h5, h6, h]
      · by_cases x4 : x = nI 4
        · simp [x4, h1, h2, nI10, h9, h10, h, show ¬ nI 4 = nI 0 by decide, show ¬ nI 4 = nI 1 by decide, show ¬ nI 4 = nI 2 by decide, show ¬ nI 4 = nI 3 by decide]
        · by_cases x5 : x = nI 5
          · simp [x5, h1, h2, nI10, h11, h12, h, show ¬ nI 5 = nI 0 by decide, show ¬ nI 5 = nI 1 by decide, show ¬ nI 5 = nI 2 by decide, show ¬ nI 5 = nI 3 by decide, show ¬ nI 5 = nI 4 by decide]
          · simp only [h16, h1, h2, e_isOver hw ha h13 h10]
            by_cases ov : w = 4 ∨ an = 200
            · simp only [ov, if_true, nI10, x0, x1, x4, x5, h, not_false_eq_true, not_true_eq_false, true_implies, false_implies, true_and, and_true]
              by_cases x2 : x = nI 2
              · simp [x2, show ¬ nI 2 = nI 3 by decide, h]
              · by_cases x3 : x = nI 3
                · simp [x3, show ¬ nI 3 = nI 2 by decide, h]
                · simp [x2, x3, h]
            · have hw3 : w < 4 := by omega
              have m1 : ¬ nI w = (-1 : Int32) := fun e => (nI_eqm1 (show w < 2 ^ 31 by omega)).mp e
              have c : vp_in (nI w) 4 := by simp (disch := omega) only [nI_add, nI_eq, nI_leI, nI_ltI, pk_sub, pk_mul, nI_clamp, nI_eqm1, nI_lt0, vp_in_iffN]; omega
              simp only [ov, if_false, nI10, m1, x0, x1, x4, x5, c, wp_X8_longOn, wp_X8_spreadOn, e_nL hw3 h13 h4, e_nS hw3 h13 h6, h3, h5, nI_clamp (show w < 2 ^ 31 by omega), h, not_false_eq_true, not_true_eq_false, true_implies, false_implies, true_and, and_true]
              by_cases x2 : x = nI 2
              · simp [x2, show ¬ nI 2 = nI 3 by decide, h]
              · by_cases x3 : x = nI 3
                · simp [x3, show ¬ nI 3 = nI 2 by decide, h]
                · simp [x2, x3, h]
theorem op_test {σ τ : St} (h : Rel σ τ) (x y v : Int32) : wp_X10_test σ x y v (fun r σ' => wp_X11_test τ x y v (fun r' τ' => r = r' ∧ Rel σ' τ')) := by
  obtain ⟨hT, hF, hX, hMe, hP, hR⟩ := id h
  simp only [wp_X10_test, wp_X8_begin, wp_X11_test, e_isOnGrid, e_within, e_isIn]
  by_cases c1 : (x < nI 0 ∨ nI 10 < x)
  · simp [c1, h]
  · by_cases c2 : (y < nI 0 ∨ nI 2 < y)
    · simp [c1, c2, nI10, h]
    · by_cases c3 : (v < nI 1 ∨ nI 9 < v)
      · simp [c1, c2, c3, nI10, h]
      · have d1 := not_or.mp c1
        have d2 := not_or.mp c2
        have d3 := not_or.mp c3
        obtain ⟨i, -, hi, rfl⟩ := inN (by decide) (by decide) d1.1 d1.2
        obtain ⟨j, -, hj, rfl⟩ := inN (by decide) (by decide) d2.1 d2.2
        obtain ⟨ld, l1, l2, rfl⟩ := inN (by decide) (by decide) d3.1 d3.2
        simp only [c1, c2, c3, nI10, or_self, not_false_eq_true, true_implies, not_true_eq_false, false_implies, and_true, true_and, or_true]
        refine p_makeBest (fun f hf => ?_)
        refine p_nextWay (k0 := 0) (i := i) (j := j) (by omega) (by omega) rfl rfl (fun v hv => by omega) (fun v _ hv => hf v hv) (by omega) (fun w hw => ?_)
        refine p_findsM (i := i) (j := j) (k0 := 0) (by omega) (by omega) rfl rfl (by omega) (fun w' hw' => ?_)
        obtain rfl := hw.uniq hw'
        obtain ⟨w1, w2, w3, w4⟩ := hw
        refine ⟨hT, hF, hX, hMe, hP, Or.inr ⟨i, j, ld, 0, 0, w, rfl, rfl, by omega, by omega, rfl, rfl, rfl, rfl, l1, l2, rfl, rfl, by omega, by omega, rfl, rfl, rfl, rfl, w2, rfl, rfl, Or.inl ⟨0, by omega, rfl⟩, ?_, w3, fun v hv => Or.inr (w4 v (by omega) hv), fun _ v _ hv => hf v hv⟩⟩
        show (if w = 4 then (-1 : Int32) else nI w) = _
        simp
theorem sgn1 {y : Nat} (h : 0 < y) : nI 0 - nI y + nI 1 = nI 0 - nI (y - 1) := by
  obtain ⟨k, rfl⟩ : ∃ k, y = k + 1 := ⟨y - 1, by omega⟩
  rw [Nat.add_sub_cancel, ← nI_add k 1]
  generalize nI k = a
  generalize nI 1 = b
  generalize nI 0 = c
  grind
theorem sgn2 {y : Nat} : nI 0 - nI y + (-1) = nI 0 - nI (y + 1) := by
  rw [← nI_add y 1]
  generalize nI y = a
  rw [show nI 1 = (1 : Int32) from rfl]
  generalize nI 0 = c
  grind
theorem sgn3 {y : Nat} : nI 0 - (nI 0 - nI y) = nI y := by
  generalize nI y = a
  generalize nI 0 = c
  grind
theorem sgn4 {y : Nat} : -(nI y) = nI 0 - nI y := by
  generalize nI y = a
  rw [show nI 0 = (0 : Int32) from rfl]
  grind
theorem sgn5 : nI 0 - nI 0 = nI 0 := by decide
theorem sgn6 {y : Nat} (h : 0 < y) (h2 : y < 2 ^ 30) : nI 0 - nI y < nI 0 := pk_sneg h2 h
theorem sgn7 {a y : Nat} (h : 0 < y) (h2 : y < 2 ^ 30) (ha : a < 2 ^ 31) : ¬ nI a = nI 0 - nI y := by
  intro e
  have := sgn6 h h2
  rw [← e] at this
  exact nI_pos ha this
theorem sgn8 {a b : Nat} (ha : a < 2 ^ 31) (hb : b < 2 ^ 31) : nI 0 - nI a = nI 0 - nI b ↔ a = b := by
  refine ⟨fun e => ?_, fun e => by rw [e]⟩
  have : nI 0 - (nI 0 - nI a) = nI 0 - (nI 0 - nI b) := by rw [e]
  rw [sgn3, sgn3] at this
  exact nI_inj ha hb this
