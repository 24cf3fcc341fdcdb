/-! marks -/
theorem part_line {u nl j : Nat} {fs mn : Nat → Nat} (hP : Part u nl fs mn) (hj : j < u) : ∃ k, k < nl ∧ fs k ≤ j ∧ j < fs k + mn k ∧ ∀ i, i < k → fs i + mn i ≤ j := by
  obtain ⟨h0, h1, h2⟩ := hP
  have hnl : 0 < nl := Nat.pos_of_ne_zero (fun e => by have := h0 e; omega)
  obtain ⟨h3, h4⟩ := h1 hnl
  obtain ⟨k, hk, hl⟩ := pk_least (fun k => j < fs k + mn k) ⟨nl - 1, by omega⟩
  have hkn : k < nl := by
    rcases Nat.lt_or_ge k nl with q | q
    · exact q
    · exact absurd (show j < fs (nl - 1) + mn (nl - 1) by omega) (hl (nl - 1) (by omega))
  refine ⟨k, hkn, ?_, hk, fun i hi => by have := hl i hi; omega⟩
  cases k with
  | zero => omega
  | succ k =>
    have := hl k (by omega)
    rw [h2 k hkn]
    omega
theorem p_lineOf {σ : St} {nl j k : Nat} {fs mn ns : Nat → Nat} {sg : Nat → Nat → Int32} {Q : Int32 → St → Prop} (hC : CSet σ nl fs mn ns sg) (hk : k < nl) (h1 : fs k ≤ j) (h2 : j < fs k + mn k) (h3 : ∀ i, i < k → fs i + mn i ≤ j) (hQ : Q (nI k) σ) : wp_X5_lineOf σ (nI j) Q := by
  obtain ⟨hn, hn2, su, bg, en, s1, s2, s3, s4⟩ := hC
  have b : ∀ i, i < nl → fs i + mn i ≤ 80 := fun i hi => by have := (s4 i hi).2.2.2.1; omega
  have hb := b k hk
  have key : ∀ d i, i + d = k → wpl_X5_lineOf_2 (nI j) Q (d + 1) σ (nI i) := by
    intro d
    induction d with
    | zero =>
      intro i hi
      obtain rfl : i = k := by omega
      obtain ⟨l1, l2, -⟩ := s4 i hk
      unfold wpl_X5_lineOf_2
      have c1 : ¬ nI nl ≤ nI i := by simp (disch := omega) only [nI_add, nI_eq, nI_leI, nI_ltI, pk_sub, pk_mul, nI_clamp, nI_eqm1, nI_lt0, vp_in_iffN]; omega
      have c2 : vp_in (nI i) 80 := by simp (disch := omega) only [nI_add, nI_eq, nI_leI, nI_ltI, pk_sub, pk_mul, nI_clamp, nI_eqm1, nI_lt0, vp_in_iffN]; omega
      have c3 : ¬ nI j < nI (fs i) := by simp (disch := omega) only [nI_add, nI_eq, nI_leI, nI_ltI, pk_sub, pk_mul, nI_clamp, nI_eqm1, nI_lt0, vp_in_iffN]; omega
      have c4 : ¬ nI (fs i + mn i) ≤ nI j := by simp (disch := omega) only [nI_add, nI_eq, nI_leI, nI_ltI, pk_sub, pk_mul, nI_clamp, nI_eqm1, nI_lt0, vp_in_iffN]; omega
      simp only [hn2, c1, c2, nI_clamp (show i < 2 ^ 31 by omega), l1, l2, c3, nI_add, c4, not_false_eq_true, true_implies, false_implies, true_and]
      exact hQ
    | succ d ih =>
      intro i hi
      obtain ⟨l1, l2, -⟩ := s4 i (by omega)
      have h4 := h3 i (by omega)
      have := ih (i + 1) (by omega)
      unfold wpl_X5_lineOf_2
      have c1 : ¬ nI nl ≤ nI i := by simp (disch := omega) only [nI_add, nI_eq, nI_leI, nI_ltI, pk_sub, pk_mul, nI_clamp, nI_eqm1, nI_lt0, vp_in_iffN]; omega
      have c2 : vp_in (nI i) 80 := by simp (disch := omega) only [nI_add, nI_eq, nI_leI, nI_ltI, pk_sub, pk_mul, nI_clamp, nI_eqm1, nI_lt0, vp_in_iffN]; omega
      have c3 : ¬ nI j < nI (fs i) := by simp (disch := omega) only [nI_add, nI_eq, nI_leI, nI_ltI, pk_sub, pk_mul, nI_clamp, nI_eqm1, nI_lt0, vp_in_iffN]; omega
      have c4 : nI (fs i + mn i) ≤ nI j := by simp (disch := omega) only [nI_add, nI_eq, nI_leI, nI_ltI, pk_sub, pk_mul, nI_clamp, nI_eqm1, nI_lt0, vp_in_iffN]; omega
      simp only [hn2, c1, c2, nI_clamp (show i < 2 ^ 31 by omega), l1, l2, c3, nI_add, c4, not_false_eq_true, true_implies, not_true_eq_false, false_implies, true_and, and_true]
      exact this
  exact ⟨k + 1, key k 0 (by omega)⟩
theorem p_pageOfM {τ : St} {nl j k r : Nat} {fs mn ns : Nat → Nat} {sg : Nat → Nat → Int32} {Q : Int32 → St → Prop} (hM : MSet τ nl fs mn ns sg) (hn : nl ≤ 80) (hb : ∀ i, i < nl → fs i + mn i ≤ 80) (hk : k < nl) (h2 : j < fs k + mn k) (h3 : ∀ i, i < k → fs i + mn i ≤ j) (hr : τ 0 31 = nI r) (hr2 : 2 ≤ r) (hr3 : r ≤ 40) (hQ : Q (nI k / nI r) τ) : wp_X11_pageOf τ (nI j) Q := by
  have hbk := hb k hk
  have hr0 : ¬ nI r = nI 0 := by simp (disch := omega) only [nI_add, nI_eq, nI_leI, nI_ltI, pk_sub, pk_mul, nI_clamp, nI_eqm1, nI_lt0, vp_in_iffN]; omega
  have key : ∀ d i, i + d = k → wpl_X11_pageOf_2 (nI j) Q (d + 1) τ (nI i) := by
    intro d
    induction d with
    | zero =>
      intro i hi
      obtain rfl : i = k := by omega
      obtain ⟨l1, l2, -⟩ := hM.2 i hk
      unfold wpl_X11_pageOf_2
      have c2 : vp_in (nI i) 80 := by simp (disch := omega) only [nI_add, nI_eq, nI_leI, nI_ltI, pk_sub, pk_mul, nI_clamp, nI_eqm1, nI_lt0, vp_in_iffN]; omega
      have c4 : nI j < nI (fs i + mn i) := by simp (disch := omega) only [nI_add, nI_eq, nI_leI, nI_ltI, pk_sub, pk_mul, nI_clamp, nI_eqm1, nI_lt0, vp_in_iffN]; omega
      simp only [c2, nI_clamp (show i < 2 ^ 31 by omega), l1, l2, hr, hr0, nI_add, c4, not_false_eq_true, true_implies, not_true_eq_false, false_implies, true_and, and_true]
      exact hQ
    | succ d ih =>
      intro i hi
      obtain ⟨l1, l2, -⟩ := hM.2 i (by omega)
      have h4 := h3 i (by omega)
      have hb4 := hb i (by omega)
      have := ih (i + 1) (by omega)
      unfold wpl_X11_pageOf_2
      have c2 : vp_in (nI i) 80 := by simp (disch := omega) only [nI_add, nI_eq, nI_leI, nI_ltI, pk_sub, pk_mul, nI_clamp, nI_eqm1, nI_lt0, vp_in_iffN]; omega
      have c4 : ¬ nI j < nI (fs i + mn i) := by simp (disch := omega) only [nI_add, nI_eq, nI_leI, nI_ltI, pk_sub, pk_mul, nI_clamp, nI_eqm1, nI_lt0, vp_in_iffN]; omega
      simp only [c2, nI_clamp (show i < 2 ^ 31 by omega), l1, l2, nI_add, c4, not_false_eq_true, true_implies, false_implies, true_and]
      exact this
  exact ⟨k + 1, key k 0 (by omega)⟩
theorem e_isOfText {σ : St} {Q : Int32 → St → Prop} : wp_X5_isOfText σ Q = (((σ 14 4 = nI 0 ∨ σ 14 5 = nI 0) → Q (nI 0) σ) ∧ (¬ (σ 14 4 = nI 0 ∨ σ 14 5 = nI 0) → Q (nI 1) σ)) := by
  unfold wp_X5_isOfText
  by_cases h1 : σ 14 4 = nI 0 <;> by_cases h2 : σ 14 5 = nI 0 <;> simp [h1, h2]
theorem CSet.bnd {σ : St} {nl : Nat} {fs mn ns : Nat → Nat} {sg : Nat → Nat → Int32} (hC : CSet σ nl fs mn ns sg) : ∀ i, i < nl → fs i + mn i ≤ 80 := by
  obtain ⟨hn, hn2, su, bg, en, s1, s2, s3, s4⟩ := hC
  exact fun i hi => by have := (s4 i hi).2.2.2.1; omega
theorem op_mark {σ τ : St} (h : Rel σ τ) (x : Int32) : wp_X10_mark σ x (fun r σ' => wp_X11_mark τ x (fun r' τ' => r = r' ∧ Rel σ' τ')) := by
  obtain ⟨hT, hF, ⟨u, z, b, L, hO, hC, hM, ⟨c, k1, k2, k3, k4⟩, hS⟩, hMe, ⟨r, t, p1, p2, p3, p4, p5, p6, p7, p8⟩, hR⟩ := id h
  obtain ⟨s1, s2, s3, s4, s5, s6⟩ := id hS
  have hu := hO.1
  simp only [wp_X10_mark, wp_X11_mark, e_isOfText, hM.1, k3]
  by_cases fr : τ 0 25 = nI 1
  · obtain ⟨f1, f2⟩ := s5.mp fr
    simp only [fr, f1, f2, nI10, or_self, not_false_eq_true, true_implies, false_implies, true_and]
    rcases ix3 x (n := u) (by omega) with g | ⟨g, g2⟩ | ⟨j, hj, rfl⟩
    · simp [e_has9, g, h]
    · simp [e_has9, g, g2, hC.1, h]
    · obtain ⟨nl, fs, mn, ns, sg, q1, q2, q3⟩ := s6 f1
      obtain ⟨k, i1, i2, i3, i4⟩ := part_line (q3 f2) hj
      have hn := q1.1
      have g1 : ¬ nI j < nI 0 := by simp (disch := omega) only [nI_add, nI_eq, nI_leI, nI_ltI, pk_sub, pk_mul, nI_clamp, nI_eqm1, nI_lt0, vp_in_iffN]; omega
      have g2 : ¬ nI u ≤ nI j := by simp (disch := omega) only [nI_add, nI_eq, nI_leI, nI_ltI, pk_sub, pk_mul, nI_clamp, nI_eqm1, nI_lt0, vp_in_iffN]; omega
      have hr0 : ¬ nI r = nI 0 := by simp (disch := omega) only [nI_add, nI_eq, nI_leI, nI_ltI, pk_sub, pk_mul, nI_clamp, nI_eqm1, nI_lt0, vp_in_iffN]; omega
      rw [e_has9k hC.1 hu hj]
      simp only [g1, g2, nI10, not_false_eq_true, true_implies, not_true_eq_false, false_implies, true_and, and_true]
      refine p_lineOf q1 i1 i2 i3 i4 ?_
      simp only [wp_X2_pageOf, wp_X0_add, p5, hr0, k2, not_false_eq_true, true_and]
      by_cases c20 : c = 20
      · subst c20
        simp [h, Int32.lt_irrefl]
      · have e1 : nI c < nI 20 := by simp (disch := omega) only [nI_add, nI_eq, nI_leI, nI_ltI, pk_sub, pk_mul, nI_clamp, nI_eqm1, nI_lt0, vp_in_iffN]; omega
        have e2 : ¬ nI c = nI 20 := by simp (disch := omega) only [nI_add, nI_eq, nI_leI, nI_ltI, pk_sub, pk_mul, nI_clamp, nI_eqm1, nI_lt0, vp_in_iffN]; omega
        have e3 : vp_in (nI c) 20 := by simp (disch := omega) only [nI_add, nI_eq, nI_leI, nI_ltI, pk_sub, pk_mul, nI_clamp, nI_eqm1, nI_lt0, vp_in_iffN]; omega
        simp only [e1, e2, e3, not_false_eq_true, true_implies, not_true_eq_false, false_implies, true_and, and_true, nI_clamp (show c < 2 ^ 31 by omega)]
        refine p_pageOfM (τ := up2 τ 17 c (nI j)) q2 hn q1.bnd i1 i3 i4 p6 p1 p2 ⟨?_, hT, hF, ⟨u, z, b, L, hO, hC, hM, ⟨c + 1, by omega, ?_, ?_, ?_⟩, hS⟩, hMe, ⟨r, t, p1, p2, p3, p4, p5, p6, p7, p8⟩, hR⟩
        · show _ = τ 0 33 + nI 1 - nI 1
          rw [k3]
        · show nI c + nI 1 = _
          simp (disch := omega) only [nI_add, nI_eq, nI_leI, nI_ltI, pk_sub, pk_mul, nI_clamp, nI_eqm1, nI_lt0, vp_in_iffN]
        · show τ 0 33 + nI 1 = _
          rw [k3]
          simp (disch := omega) only [nI_add, nI_eq, nI_leI, nI_ltI, pk_sub, pk_mul, nI_clamp, nI_eqm1, nI_lt0, vp_in_iffN]
        · intro m hm
          show upd (σ 28) c (nI j) m = upd (τ 17) c (nI j) m ∧ upd (σ 29) c (nI k / nI r) m = upd (τ 18) c (nI k / nI r) m ∧ ∃ j', j' < u ∧ upd (σ 28) c (nI j) m = nI j'
          by_cases hmc : m = c
          · subst hmc
            simp only [upd_same, true_and]
            exact ⟨j, hj, rfl⟩
          · simp only [upd_ne hmc]
            exact k4 m (by omega)
  · have f0 : τ 0 25 = nI 0 := s3.elim id (fun q => absurd q fr)
    have f1 : σ 14 4 = nI 0 ∨ σ 14 5 = nI 0 := by
      rcases s1 with q | q
      · exact Or.inl q
      · rcases s2 with q2 | q2
        · exact Or.inr q2
        · exact absurd (s5.mpr ⟨q, q2⟩) fr
    simp [f0, f1, h]
theorem e_has0 {σ : St} {x : Int32} {Q : Int32 → St → Prop} : wp_X0_has σ x Q = (((x < nI 0 ∨ σ 27 2 ≤ x) → Q (nI 0) σ) ∧ (¬ (x < nI 0 ∨ σ 27 2 ≤ x) → Q (nI 1) σ)) := by
  unfold wp_X0_has
  by_cases h1 : x < nI 0 <;> by_cases h2 : σ 27 2 ≤ x <;> simp [h1, h2]
theorem e_has0k {σ : St} {u k : Nat} {Q : Int32 → St → Prop} (hu : σ 27 2 = nI u) (hu2 : u ≤ 20) (hk : k < u) : wp_X0_has σ (nI k) Q = Q (nI 1) σ := by
  have c : ¬ (nI k < nI 0 ∨ nI u ≤ nI k) := by simp (disch := omega) only [nI_add, nI_eq, nI_leI, nI_ltI, pk_sub, pk_mul, nI_clamp, nI_eqm1, nI_lt0, vp_in_iffN]; omega
  simp only [e_has0, hu, c, not_false_eq_true, true_implies, false_implies, true_and]
theorem op_marked {σ τ : St} (h : Rel σ τ) (x y : Int32) : wp_X10_marked σ x y (fun r σ' => wp_X11_marked τ x y (fun r' τ' => r = r' ∧ Rel σ' τ')) := by
  obtain ⟨hT, hF, ⟨u, z, b, L, hO, hC, hM, ⟨c, k1, k2, k3, k4⟩, hS⟩, hMe, ⟨r, t, p1, p2, p3, p4, p5, p6, p7, p8⟩, hR⟩ := id h
  obtain ⟨s1, s2, s3, s4, s5, s6⟩ := id hS
  have hu := hO.1
  simp only [wp_X10_marked, wp_X11_marked, k3]
  rcases ix3 x (n := c) (by omega) with g | ⟨g, g2⟩ | ⟨m, hm, rfl⟩
  · simp [e_has0, g, h]
  · simp [e_has0, g, g2, k2, h]
  · obtain ⟨m1, m2, j, hj, m3⟩ := k4 m hm
    have g1 : ¬ nI m < nI 0 := by simp (disch := omega) only [nI_add, nI_eq, nI_leI, nI_ltI, pk_sub, pk_mul, nI_clamp, nI_eqm1, nI_lt0, vp_in_iffN]; omega
    have g2 : ¬ nI c ≤ nI m := by simp (disch := omega) only [nI_add, nI_eq, nI_leI, nI_ltI, pk_sub, pk_mul, nI_clamp, nI_eqm1, nI_lt0, vp_in_iffN]; omega
    have g3 : vp_in (nI m) 20 := by simp (disch := omega) only [nI_add, nI_eq, nI_leI, nI_ltI, pk_sub, pk_mul, nI_clamp, nI_eqm1, nI_lt0, vp_in_iffN]; omega
    rw [e_has0k k2 k1 hm]
    simp only [wp_X0_unitOf, wp_X0_pageOf, wp_X10_shiftOf, e_has0k k2 k1 hm, g1, g2, g3, nI10, not_false_eq_true, true_implies, not_true_eq_false, false_implies, true_and, and_true, nI_clamp (show m < 2 ^ 31 by omega)]
    by_cases y0 : y = nI 0
    · subst y0
      simp [show ¬ nI 0 < nI 0 by decide, show nI 0 ≤ nI 2 by decide, h, m1]
    · by_cases y1 : y = nI 1
      · subst y1
        simp [show ¬ nI 1 < nI 0 by decide, show nI 1 ≤ nI 2 by decide, nI10, h, m2]
      · by_cases y2 : y = nI 2
        · subst y2
          simp only [show ¬ nI 2 < nI 0 by decide, show nI 2 ≤ nI 2 by decide, y0, y1, e_isOfText, not_false_eq_true, true_implies, not_true_eq_false, false_implies, true_and, and_true]
          by_cases fr : τ 0 25 = nI 1
          · obtain ⟨f1, f2⟩ := s5.mp fr
            obtain ⟨nl, fs, mn, ns, sg, q1, q2, q3⟩ := s6 f1
            obtain ⟨k, i1, i2, i3, i4⟩ := part_line (q3 f2) hj
            have hr0 : ¬ nI r = nI 0 := by simp (disch := omega) only [nI_add, nI_eq, nI_leI, nI_ltI, pk_sub, pk_mul, nI_clamp, nI_eqm1, nI_lt0, vp_in_iffN]; omega
            simp only [fr, f1, f2, nI10, or_self, not_false_eq_true, true_implies, not_true_eq_false, false_implies, true_and, and_true, e_has0k k2 k1 hm, g3, nI_clamp (show m < 2 ^ 31 by omega), m3]
            refine p_lineOf q1 i1 i2 i3 i4 ?_
            simp only [wp_X2_pageOf, e_has0k k2 k1 hm, g3, p5, hr0, nI10, not_false_eq_true, true_implies, false_implies, true_and, and_true, nI_clamp (show m < 2 ^ 31 by omega), ← m1, m3]
            exact p_pageOfM q2 q1.1 q1.bnd i1 i3 i4 p6 p1 p2 ⟨by rw [m2], h⟩
          · have f0 : τ 0 25 = nI 0 := s3.elim id (fun q => absurd q fr)
            have f1 : σ 14 4 = nI 0 ∨ σ 14 5 = nI 0 := by
              rcases s1 with q | q
              · exact Or.inl q
              · rcases s2 with q2 | q2
                · exact Or.inr q2
                · exact absurd (s5.mpr ⟨q, q2⟩) fr
            simp [f0, f1, h]
        · simp only [y0, y1, y2, not_false_eq_true, true_implies, false_implies, true_and]
          by_cases y3 : y < nI 0
          · simp [y3, h]
          · by_cases y4 : y ≤ nI 2
            · exfalso
              obtain ⟨q, q1, q2, rfl⟩ := inN (a := 0) (b := 2) (by decide) (by decide) y3 (Int32.not_lt.mpr y4)
              have : q = 0 ∨ q = 1 ∨ q = 2 := by omega
              rcases this with rfl | rfl | rfl
              · exact y0 rfl
              · exact y1 rfl
              · exact y2 rfl
            · simp [y3, y4, h]
