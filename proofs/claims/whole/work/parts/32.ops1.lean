/-! the ops without loops -/
theorem nI10 : ¬ nI 1 = nI 0 := by decide
theorem nI01 : ¬ nI 0 = nI 1 := by decide
theorem e_within {σ : St} {x a b : Int32} {Q : Int32 → St → Prop} : wp_X10_within σ x a b Q = (((x < a ∨ b < x) → Q (nI 0) σ) ∧ (¬ (x < a ∨ b < x) → Q (nI 1) σ)) := by
  unfold wp_X10_within
  by_cases h1 : x < a <;> by_cases h2 : b < x <;> simp [h1, h2]
theorem e_isIn {σ : St} {x a b : Int32} {Q : Int32 → St → Prop} : wp_X11_isIn σ x a b Q = (((x < a ∨ b < x) → Q (nI 0) σ) ∧ (¬ (x < a ∨ b < x) → Q (nI 1) σ)) := by
  unfold wp_X11_isIn
  by_cases h1 : x < a <;> by_cases h2 : b < x <;> simp [h1, h2]
theorem e_isLetC {σ : St} {x : Int32} {Q : Int32 → St → Prop} : wp_X10_isLetter σ x Q = (((x < nI 97 ∨ nI 122 < x) → Q (nI 0) σ) ∧ (¬ (x < nI 97 ∨ nI 122 < x) → Q (nI 1) σ)) := by
  unfold wp_X10_isLetter
  by_cases h1 : x < nI 97 <;> by_cases h2 : nI 122 < x <;> simp [h1, h2]
theorem e_isLetM {σ : St} {x : Int32} {Q : Int32 → St → Prop} : wp_X11_isLetter σ x Q = (((x < nI 97 ∨ nI 122 < x) → Q (nI 0) σ) ∧ (¬ (x < nI 97 ∨ nI 122 < x) → Q (nI 1) σ)) := by
  unfold wp_X11_isLetter
  by_cases h1 : x < nI 97 <;> by_cases h2 : nI 122 < x <;> simp [h1, h2]
theorem op_fault {σ τ : St} (h : Rel σ τ) (x : Int32) : wp_X10_fault σ x (fun r σ' => wp_X11_fault τ x (fun r' τ' => r = r' ∧ Rel σ' τ')) := by
  have hf := h.2.1
  unfold wp_X10_fault wp_X11_fault wp_X3_kind wp_X3_place
  refine ⟨fun c0 => ⟨fun c => absurd c0 c, fun _ => ⟨hf.1, h⟩⟩, fun c0 => ⟨fun c1 => ⟨fun _ => ⟨fun c => absurd c1 c, fun _ => ⟨hf.2, h⟩⟩, fun c => absurd c c0⟩, fun c1 => ⟨fun _ => ⟨fun _ => ⟨rfl, h⟩, fun c => absurd c c1⟩, fun c => absurd c c0⟩⟩⟩
theorem op_end {σ τ : St} (h : Rel σ τ) (x : Int32) : wp_X10_end σ x (fun r σ' => wp_X11_end τ x (fun r' τ' => r = r' ∧ Rel σ' τ')) := by
  obtain ⟨⟨n, hn, h1, h2, h3⟩, hr⟩ := id h
  simp only [wp_X10_end, wp_X7_keepFirst, e_within, wp_X11_end, h1, h2]
  by_cases c : x < nI 0
  · simp [c, h]
  · by_cases c2 : nI n < x
    · simp [c, c2, h, Int32.not_le.mpr c2]
    · simp only [c, c2, nI10, not_false_eq_true, Int32.not_lt.mp c2, or_self, true_implies, not_true_eq_false, false_implies, and_true, true_and, or_true]
      obtain ⟨j, h5, h6, rfl⟩ := inN (a := 0) (by decide) (by omega) c c2
      exact ⟨⟨j, by omega, rfl, rfl, fun i hi => h3 i (by omega)⟩, hr⟩
theorem op_measure {σ τ : St} (h : Rel σ τ) (x y : Int32) : wp_X10_measure σ x y (fun r σ' => wp_X11_measure τ x y (fun r' τ' => r = r' ∧ Rel σ' τ')) := by
  obtain ⟨hT, hF, hX, ⟨lg, sp, sh, ph, inn, ct, rv, lk, hO, hC, hM⟩, hP, hR⟩ := id h
  simp only [wp_X10_measure, wp_X1_changeLine, wp_X11_measure, e_within, e_isIn]
  by_cases c1 : (x < nI 10 ∨ nI 60 < x)
  · simp [c1, h]
  · by_cases c2 : (y < nI 1 ∨ nI 3 < y)
    · simp [c1, c2, h]
    · simp only [c1, c2, nI10, not_false_eq_true, true_implies, not_true_eq_false, false_implies, and_true, true_and, or_true]
      have d1 := not_or.mp c1
      have d2 := not_or.mp c2
      obtain ⟨a, a1, a2, rfl⟩ := inN (by decide) (by decide) d1.1 d1.2
      obtain ⟨b, b1, b2, rfl⟩ := inN (by decide) (by decide) d2.1 d2.2
      obtain ⟨-, -, -, -, o⟩ := hO
      exact ⟨hT, hF, hX, ⟨a, b, sh, ph, inn, ct, rv, lk, ⟨a1, a2, b1, b2, o⟩, ⟨rfl, rfl, hC.2.2⟩, ⟨rfl, rfl, hM.2.2⟩⟩, hP, hR⟩
theorem op_page {σ τ : St} (h : Rel σ τ) (x y : Int32) : wp_X10_page σ x y (fun r σ' => wp_X11_page τ x y (fun r' τ' => r = r' ∧ Rel σ' τ')) := by
  obtain ⟨hT, hF, hX, hM, hP, hR⟩ := id h
  simp only [wp_X10_page, wp_X2_change, wp_X11_page, e_within, e_isIn]
  by_cases c1 : (x < nI 2 ∨ nI 40 < x)
  · simp [c1, h]
  · by_cases c2 : (y < nI 2 ∨ nI 7 < y)
    · simp [c1, c2, h]
    · simp only [c1, c2, nI10, not_false_eq_true, true_implies, not_true_eq_false, false_implies, and_true, true_and, or_true]
      have d1 := not_or.mp c1
      have d2 := not_or.mp c2
      obtain ⟨a, a1, a2, rfl⟩ := inN (by decide) (by decide) d1.1 d1.2
      obtain ⟨b, b1, b2, rfl⟩ := inN (by decide) (by decide) d2.1 d2.2
      exact ⟨hT, hF, hX, hM, ⟨a, b, a1, a2, b1, b2, rfl, rfl, rfl, rfl⟩, hR⟩
theorem op_lines {σ τ : St} (h : Rel σ τ) : wp_X10_lines σ (fun r σ' => wp_X11_lines τ (fun r' τ' => r = r' ∧ Rel σ' τ')) := by
  obtain ⟨hT, hF, ⟨u, z, b, L, hO, hC, hM, hK, s1, s2, s3, s4, s5, s6⟩, hR⟩ := id h
  simp only [wp_X10_lines, wp_X5_isThere, wp_X5_count, wp_X11_lines, s4]
  refine ⟨s1, ?_⟩
  rcases s1 with s | s
  · simp [s, h]
  · obtain ⟨nl, fs, mn, ns, sg, q1, q2, -⟩ := s6 s
    simp [s, h, nI10, q1.2.1, q2.1]
theorem op_strains {σ τ : St} (h : Rel σ τ) (a b c d e : Int32) : wp_X10_strains σ a b c d e (fun r σ' => wp_X11_strains τ a b c d e (fun r' τ' => r = r' ∧ Rel σ' τ')) := by
  obtain ⟨hT, hF, hX, ⟨lg, sp, sh, ph, inn, ct, rv, lk, hO, hC, hM⟩, hP, hR⟩ := id h
  simp only [wp_X10_strains, wp_X1_changeStrains, wpj_X1_changeStrains_38, wp_X1_pair, wp_X11_strains, e_within, e_isIn]
  by_cases c1 : (a < nI 0 ∨ nI 100 < a)
  · by_cases c2 : (b < nI 0 ∨ nI 10000 < b) <;> by_cases c3 : (c < nI 0 ∨ nI 10000 < c) <;> by_cases c4 : (d < nI 0 ∨ nI 10000 < d) <;> simp [c1, c2, c3, c4, nI10, h]
  · by_cases c2 : (b < nI 0 ∨ nI 10000 < b)
    · simp [c1, c2, nI10, h]
    · by_cases c3 : (c < nI 0 ∨ nI 10000 < c)
      · simp [c1, c2, c3, nI10, h]
      · by_cases c4 : (d < nI 0 ∨ nI 10000 < d)
        · simp [c1, c2, c3, c4, nI10, h]
        · by_cases c5 : (e < nI 0 ∨ nI 1000 < e)
          · simp [c1, c2, c3, c4, c5, nI10, h]
          · simp only [c1, c2, c3, c4, c5, nI10, not_false_eq_true, true_implies, not_true_eq_false, false_implies, and_true, true_and, or_true]
            have d1 := not_or.mp c1
            have d2 := not_or.mp c2
            have d3 := not_or.mp c3
            have d4 := not_or.mp c4
            have d5 := not_or.mp c5
            obtain ⟨a, a1, a2, rfl⟩ := inN (by decide) (by decide) d1.1 d1.2
            obtain ⟨b, b1, b2, rfl⟩ := inN (by decide) (by decide) d2.1 d2.2
            obtain ⟨c, c1, c2, rfl⟩ := inN (by decide) (by decide) d3.1 d3.2
            obtain ⟨d, d1, d2, rfl⟩ := inN (by decide) (by decide) d4.1 d4.2
            obtain ⟨e, e1, e2, rfl⟩ := inN (by decide) (by decide) d5.1 d5.2
            obtain ⟨o1, o2, o3, o4, -, -, -, -, -, o⟩ := hO
            refine ⟨by simp (disch := omega) only [nI_add, nI_eq, nI_leI, nI_ltI, pk_sub, pk_mul, nI_clamp, nI_eqm1, nI_lt0, vp_in_iffN]; omega, hT, hF, hX, ⟨lg, sp, a, b, c, d, e, lk, ⟨o1, o2, o3, o4, a2, b2, c2, d2, e2, o⟩, ⟨hC.1, hC.2.1, rfl, rfl, rfl, rfl, fun x y hx hy => ?_⟩, ⟨hM.1, hM.2.1, rfl, rfl, rfl, rfl, rfl, hM.2.2.2.2.2.2.2⟩⟩, hP, hR⟩
            show upd (σ 13) (nI 26 * nI 28 + nI 26).toNatClampNeg (nI e) (28 * x + y) = _
            have := hC.2.2.2.2.2.2 x y hx hy
            simp (disch := omega) only [nI_add, nI_eq, nI_leI, nI_ltI, pk_sub, pk_mul, nI_clamp, nI_eqm1, nI_lt0, vp_in_iffN]
            by_cases hxy : x = 26 ∧ y = 26
            · obtain ⟨rfl, rfl⟩ := hxy
              simp [upd, pl28]
            · rw [upd_ne (by omega), this]
              simp [pl28, hxy]
