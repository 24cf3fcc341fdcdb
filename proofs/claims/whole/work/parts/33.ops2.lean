theorem e_kindL {σ : St} {a : Nat} {Q : Int32 → St → Prop} (h1 : 97 ≤ a) (h2 : a ≤ 122) : wp_X1_kindOf σ (nI a) Q = Q (nI (a - 97)) σ := by
  have c : ¬ (nI a < nI 97 ∨ nI 122 < nI a) := by simp (disch := omega) only [nI_add, nI_eq, nI_leI, nI_ltI, pk_sub, pk_mul, nI_clamp, nI_eqm1, nI_lt0, vp_in_iffN]; omega
  simp only [wp_X1_kindOf, e_isLetC, c, nI10, not_false_eq_true, true_implies, not_true_eq_false, false_implies, and_true, true_and]
  rw [pk_sub h1]
theorem op_like {σ τ : St} (h : Rel σ τ) (x y v : Int32) : wp_X10_like σ x y v (fun r σ' => wp_X11_like τ x y v (fun r' τ' => r = r' ∧ Rel σ' τ')) := by
  obtain ⟨hT, hF, hX, ⟨lg, sp, sh, ph, inn, ct, rv, lk, hO, hC, hM⟩, hP, hR⟩ := id h
  simp only [wp_X10_like, wp_X1_changeLikeness, wp_X11_like, e_within, e_isIn, e_isLetC, e_isLetM]
  by_cases c1 : (x < nI 97 ∨ nI 122 < x)
  · simp [c1, h]
  · by_cases c2 : (y < nI 97 ∨ nI 122 < y)
    · simp [c1, c2, h, nI10]
    · by_cases c3 : (v < nI 0 ∨ nI 1000 < v)
      · simp [c1, c2, c3, h, nI10]
      · have d1 := not_or.mp c1
        have d2 := not_or.mp c2
        have d3 := not_or.mp c3
        obtain ⟨a, a1, a2, rfl⟩ := inN (by decide) (by decide) d1.1 d1.2
        obtain ⟨b, b1, b2, rfl⟩ := inN (by decide) (by decide) d2.1 d2.2
        obtain ⟨e, e1, e2, rfl⟩ := inN (by decide) (by decide) d3.1 d3.2
        simp only [c1, c2, c3, nI10, not_false_eq_true, true_implies, not_true_eq_false, false_implies, and_true, true_and, or_true, e_kindL a1 a2, e_kindL b1 b2, wp_X1_pair]
        obtain ⟨A, rfl⟩ : ∃ A, a = A + 97 := ⟨a - 97, by omega⟩
        obtain ⟨B, rfl⟩ : ∃ B, b = B + 97 := ⟨b - 97, by omega⟩
        simp (disch := omega) only [nI_add, nI_eq, nI_leI, nI_ltI, pk_sub, pk_mul, nI_clamp, nI_eqm1, nI_lt0, vp_in_iffN]
        simp only [Nat.add_sub_cancel]
        have i1 : 26 * A + (B + 97) - 97 = 26 * A + B := by omega
        have i2 : 26 * B + (A + 97) - 97 = 26 * B + A := by omega
        have i3 : A * 28 + B = 28 * A + B := by omega
        have i4 : B * 28 + A = 28 * B + A := by omega
        have rC := hC.2.2.2.2.2.2
        have rM := hM.2.2.2.2.2.2.2
        rw [i1, i2, i3, i4]
        refine ⟨by omega, by omega, by omega, by omega, by omega, by omega, ?_, hT, hF, hX, ⟨lg, sp, sh, ph, inn, ct, rv, fun p q => if (p = A ∧ q = B) ∨ (p = B ∧ q = A) then e else lk p q, ?_, ⟨hC.1, hC.2.1, hC.2.2.1, hC.2.2.2.1, hC.2.2.2.2.1, hC.2.2.2.2.2.1, ?_⟩, ⟨hM.1, hM.2.1, hM.2.2.1, hM.2.2.2.1, hM.2.2.2.2.1, hM.2.2.2.2.2.1, hM.2.2.2.2.2.2.1, ?_⟩⟩, hP, hR⟩
        · rw [rC A B (by omega) (by omega), rM A B (by omega) (by omega)]
          simp [pl28, show A < 26 by omega, show B < 26 by omega, show A ≠ 26 by omega]
        · obtain ⟨o1, o2, o3, o4, o5, o6, o7, o8, o9, o⟩ := hO
          refine ⟨o1, o2, o3, o4, o5, o6, o7, o8, o9, fun p q hp hq => ?_⟩
          dsimp only
          split
          · exact e2
          · exact o p q hp hq
        · intro p q hp hq
          show upd (upd (σ 13) (28 * A + B) (nI e)) (28 * B + A) (nI e) (28 * p + q) = _
          by_cases g1 : p = B ∧ q = A
          · obtain ⟨rfl, rfl⟩ := g1
            rw [upd_same]
            simp [pl28, show p < 26 by omega, show q < 26 by omega, show p ≠ 26 by omega]
          · rw [upd_ne (by omega)]
            by_cases g2 : p = A ∧ q = B
            · obtain ⟨rfl, rfl⟩ := g2
              rw [upd_same]
              simp [pl28, show p < 26 by omega, show q < 26 by omega, show p ≠ 26 by omega]
            · rw [upd_ne (by omega), rC p q hp hq]
              simp [pl28, g1, g2]
        · intro p q hp hq
          show upd (upd (τ 9) (26 * A + B) (nI e)) (26 * B + A) (nI e) (26 * p + q) = _
          by_cases g1 : p = B ∧ q = A
          · obtain ⟨rfl, rfl⟩ := g1
            rw [upd_same]
            simp
          · rw [upd_ne (by omega)]
            by_cases g2 : p = A ∧ q = B
            · obtain ⟨rfl, rfl⟩ := g2
              rw [upd_same]
              simp
            · rw [upd_ne (by omega), rM p q hp hq]
              simp [g1, g2]
theorem op_use {σ τ : St} (h : Rel σ τ) : wp_X10_use σ (fun r σ' => wp_X11_use τ (fun r' τ' => r = r' ∧ Rel σ' τ')) := by
  obtain ⟨hT, hF, hX, ⟨lg, sp, sh, ph, inn, ct, rv, lk, hO, hC, hM⟩, hP, hR⟩ := id h
  simp only [wp_X10_use, wp_X8_haveBegun, wp_X8_bestLongest, wp_X8_bestSpread, wp_X1_changeLine, wp_X11_use, e_within]
  rcases id hR with ⟨h1, h2, h3⟩ | ⟨i, j, ld, an, wo, w, h1, h2, h3, h4, h5, h6, h7, h8, hh⟩
  · simp [h1, h3, h]
  · rw [h1, h2, h5, h7, h6, h8]
    have c1 : ¬ (nI 20 + nI 4 * nI i < nI 10 ∨ nI 60 < nI 20 + nI 4 * nI i) := by simp (disch := omega) only [nI_add, nI_eq, nI_leI, nI_ltI, pk_sub, pk_mul, nI_clamp, nI_eqm1, nI_lt0, vp_in_iffN]; omega
    have c2 : ¬ (nI 1 + nI j < nI 1 ∨ nI 3 < nI 1 + nI j) := by simp (disch := omega) only [nI_add, nI_eq, nI_leI, nI_ltI, pk_sub, pk_mul, nI_clamp, nI_eqm1, nI_lt0, vp_in_iffN]; omega
    simp only [c1, c2, nI10, not_false_eq_true, true_implies, not_true_eq_false, false_implies, and_true, true_and, or_true]
    obtain ⟨-, -, -, -, o⟩ := hO
    exact ⟨hT, hF, hX, ⟨20 + 4 * i, 1 + j, sh, ph, inn, ct, rv, lk, ⟨by omega, by omega, by omega, by omega, o⟩, ⟨by show nI 20 + nI 4 * nI i = _; simp (disch := omega) only [nI_add, nI_eq, nI_leI, nI_ltI, pk_sub, pk_mul, nI_clamp, nI_eqm1, nI_lt0, vp_in_iffN], by show nI 1 + nI j = _; simp (disch := omega) only [nI_add, nI_eq, nI_leI, nI_ltI, pk_sub, pk_mul, nI_clamp, nI_eqm1, nI_lt0, vp_in_iffN], hC.2.2⟩, ⟨by show nI 20 + nI 4 * nI i = _; simp (disch := omega) only [nI_add, nI_eq, nI_leI, nI_ltI, pk_sub, pk_mul, nI_clamp, nI_eqm1, nI_lt0, vp_in_iffN], by show nI 1 + nI j = _; simp (disch := omega) only [nI_add, nI_eq, nI_leI, nI_ltI, pk_sub, pk_mul, nI_clamp, nI_eqm1, nI_lt0, vp_in_iffN], hM.2.2⟩⟩, hP, hR⟩
theorem e_has9 {σ : St} {x : Int32} {Q : Int32 → St → Prop} : wp_X9_has σ x Q = (((x < nI 0 ∨ σ 8 3 ≤ x) → Q (nI 0) σ) ∧ (¬ (x < nI 0 ∨ σ 8 3 ≤ x) → Q (nI 1) σ)) := by
  unfold wp_X9_has
  by_cases h1 : x < nI 0 <;> by_cases h2 : σ 8 3 ≤ x <;> simp [h1, h2]
theorem e_has9k {σ : St} {u k : Nat} {Q : Int32 → St → Prop} (hu : σ 8 3 = nI u) (hu2 : u ≤ 80) (hk : k < u) : wp_X9_has σ (nI k) Q = Q (nI 1) σ := by
  have c : ¬ (nI k < nI 0 ∨ nI u ≤ nI k) := by simp (disch := omega) only [nI_add, nI_eq, nI_leI, nI_ltI, pk_sub, pk_mul, nI_clamp, nI_eqm1, nI_lt0, vp_in_iffN]; omega
  simp only [e_has9, hu, c, not_false_eq_true, true_implies, false_implies, true_and]
theorem e_behind9 {σ : St} {u k : Nat} {Q : Int32 → St → Prop} (hu : σ 8 3 = nI u) (hu2 : u ≤ 80) (hk : k < u) : wp_X9_behind σ (nI k) Q = Q (σ 11 k) σ := by
  have c : vp_in (nI k) 80 := by simp (disch := omega) only [nI_add, nI_eq, nI_leI, nI_ltI, pk_sub, pk_mul, nI_clamp, nI_eqm1, nI_lt0, vp_in_iffN]; omega
  simp only [wp_X9_behind, e_has9k hu hu2 hk, c, nI10, not_false_eq_true, true_implies, false_implies, true_and, nI_clamp (show k < 2 ^ 31 by omega)]
theorem e_letters9 {σ : St} {u k : Nat} {Q : Int32 → St → Prop} (hu : σ 8 3 = nI u) (hu2 : u ≤ 80) (hk : k < u) : wp_X9_letters σ (nI k) Q = Q (σ 10 k) σ := by
  have c : vp_in (nI k) 80 := by simp (disch := omega) only [nI_add, nI_eq, nI_leI, nI_ltI, pk_sub, pk_mul, nI_clamp, nI_eqm1, nI_lt0, vp_in_iffN]; omega
  simp only [wp_X9_letters, e_has9k hu hu2 hk, c, nI10, not_false_eq_true, true_implies, false_implies, true_and, nI_clamp (show k < 2 ^ 31 by omega)]
theorem e_goesOn9 {σ : St} {u k : Nat} {Q : Int32 → St → Prop} (hu : σ 8 3 = nI u) (hu2 : u ≤ 80) (hk : k < u) : wp_X9_goesOn σ (nI k) Q = ((¬ σ 11 k = nI 45 → Q (nI 0) σ) ∧ (σ 11 k = nI 45 → Q (nI 1) σ)) := by
  simp only [wp_X9_goesOn, e_behind9 hu hu2 hk]
theorem p_wordNumber {σ : St} {u k : Nat} {Q : Int32 → St → Prop} (hu : σ 8 3 = nI u) (hu2 : u ≤ 80) (hk : k < u) (hQ : Q (nI (wn (σ 11) k)) σ) : wp_X9_wordNumber σ (nI k) Q := by
  have key : ∀ d i, i + d = k → wpl_X9_wordNumber_4 (nI k) Q (d + 1) σ (nI (wn (σ 11) i)) (nI i) := by
    intro d
    induction d with
    | zero =>
      intro i hi
      obtain rfl : i = k := by omega
      unfold wpl_X9_wordNumber_4
      exact ⟨fun _ => hQ, fun c => absurd (Int32.le_refl _) c⟩
    | succ d ih =>
      intro i hi
      unfold wpl_X9_wordNumber_4
      have c1 : ¬ nI k ≤ nI i := by simp (disch := omega) only [nI_add, nI_eq, nI_leI, nI_ltI, pk_sub, pk_mul, nI_clamp, nI_eqm1, nI_lt0, vp_in_iffN]; omega
      have c2 : ¬ nI u ≤ nI i := by simp (disch := omega) only [nI_add, nI_eq, nI_leI, nI_ltI, pk_sub, pk_mul, nI_clamp, nI_eqm1, nI_lt0, vp_in_iffN]; omega
      have := ih (i + 1) (by omega)
      rw [hu, e_goesOn9 hu hu2 (show i < u by omega)]
      simp only [c1, c2, nI10, not_false_eq_true, true_implies, not_true_eq_false, false_implies, and_true, true_and, nI_add]
      simp only [wn] at this
      by_cases c3 : σ 11 i = nI 45 <;> simp only [c3, not_false_eq_true, true_implies, not_true_eq_false, false_implies, and_true, true_and, if_true, if_false, Nat.add_zero] at this ⊢ <;> exact this
  exact ⟨k + 1, key k 0 (by omega)⟩
theorem wn_congr {b b' : Nat → Int32} : ∀ {k : Nat}, (∀ j, j < k → b j = b' j) → wn b k = wn b' k
  | 0, _ => rfl
  | k + 1, h => by
    simp only [wn]
    rw [wn_congr (fun j hj => h j (by omega)), h k (by omega)]
theorem op_unit {σ τ : St} (h : Rel σ τ) (x y : Int32) : wp_X10_unit σ x y (fun r σ' => wp_X11_unit τ x y (fun r' τ' => r = r' ∧ Rel σ' τ')) := by
  obtain ⟨hT, hF, ⟨u, z, b, L, hO, hC, hM, hr⟩, hR⟩ := id h
  simp only [wp_X10_unit, wp_X11_unit, hM.1]
  rcases ix3 x (n := u) (by have := hO.1; omega) with c | ⟨c, c2⟩ | ⟨k, hk, rfl⟩
  · simp [e_has9, c, h]
  · simp [e_has9, c, c2, hC.1, h, Int32.not_lt.mpr c2]
  · have hu := hO.1
    have q := hC.2 k hk
    have q2 := hM.2 k hk
    have c1 : ¬ nI k < nI 0 := by simp (disch := omega) only [nI_add, nI_eq, nI_leI, nI_ltI, pk_sub, pk_mul, nI_clamp, nI_eqm1, nI_lt0, vp_in_iffN]; omega
    have c2 : nI k < nI u := by simp (disch := omega) only [nI_add, nI_eq, nI_leI, nI_ltI, pk_sub, pk_mul, nI_clamp, nI_eqm1, nI_lt0, vp_in_iffN]; omega
    have c3 : vp_in (nI k) 80 := by simp (disch := omega) only [nI_add, nI_eq, nI_leI, nI_ltI, pk_sub, pk_mul, nI_clamp, nI_eqm1, nI_lt0, vp_in_iffN]; omega
    rw [e_has9k hC.1 hu hk]
    simp only [c1, c2, c3, e_letters9 hC.1 hu hk, e_behind9 hC.1 hu hk, nI10, not_false_eq_true, true_implies, not_true_eq_false, false_implies, and_true, true_and, nI_clamp (show k < 2 ^ 31 by omega), q.1, q.2.1, q2.1, q2.2.1, q2.2.2.2]
    refine ⟨fun c => ?_, fun c => ⟨fun c' => ?_, fun c' => ⟨fun c'' => ?_, fun c'' => ?_⟩⟩⟩
    · simp [c, h]
    · simp [c', h, nI10]
    · refine p_wordNumber hC.1 hu hk ?_
      have e : wn (σ 11) k = wn b k := wn_congr (fun j hj => (hC.2 j (by omega)).2.1)
      simp [c'', e, h, show ¬ nI 2 = nI 0 by decide, show ¬ nI 2 = nI 1 by decide]
    · simp [c, c', c'', h]
