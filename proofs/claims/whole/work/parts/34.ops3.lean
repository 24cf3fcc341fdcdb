/-! lines, signs, rivers -/
theorem e_has5 {σ : St} {x : Int32} {Q : Int32 → St → Prop} : wp_X5_has σ x Q = ((σ 14 4 = nI 0 → Q (nI 0) σ) ∧ (¬ σ 14 4 = nI 0 → (((x < nI 0 ∨ σ 14 3 ≤ x) → Q (nI 0) σ) ∧ (¬ (x < nI 0 ∨ σ 14 3 ≤ x) → Q (nI 1) σ)))) := by
  unfold wp_X5_has
  by_cases h0 : σ 14 4 = nI 0 <;> by_cases h1 : x < nI 0 <;> by_cases h2 : σ 14 3 ≤ x <;> simp [h0, h1, h2]
theorem e_has5k {σ : St} {nl k : Nat} {Q : Int32 → St → Prop} (ht : σ 14 4 = nI 1) (hn : σ 14 3 = nI nl) (hn2 : nl ≤ 80) (hk : k < nl) : wp_X5_has σ (nI k) Q = Q (nI 1) σ := by
  have c : ¬ (nI k < nI 0 ∨ nI nl ≤ nI k) := by simp (disch := omega) only [nI_add, nI_eq, nI_leI, nI_ltI, pk_sub, pk_mul, nI_clamp, nI_eqm1, nI_lt0, vp_in_iffN]; omega
  simp only [e_has5, ht, hn, c, nI10, not_false_eq_true, true_implies, false_implies, true_and]
/-- of a line that the strip holds -/
theorem e_holds {σ : St} {su f m : Nat} {Q : Int32 → St → Prop} (hs : σ 15 5 = nI su) (hs2 : su ≤ 80) (hm : 1 ≤ m) (hf : f + m ≤ su) : wp_X6_holds σ (nI f) (nI m) Q = Q (nI 1) σ := by
  have c1 : ¬ nI f < nI 0 := by simp (disch := omega) only [nI_add, nI_eq, nI_leI, nI_ltI, pk_sub, pk_mul, nI_clamp, nI_eqm1, nI_lt0, vp_in_iffN]; omega
  have c2 : ¬ nI m < nI 1 := by simp (disch := omega) only [nI_add, nI_eq, nI_leI, nI_ltI, pk_sub, pk_mul, nI_clamp, nI_eqm1, nI_lt0, vp_in_iffN]; omega
  have c3 : ¬ nI su - nI f < nI m := by simp (disch := omega) only [nI_add, nI_eq, nI_leI, nI_ltI, pk_sub, pk_mul, nI_clamp, nI_eqm1, nI_lt0, vp_in_iffN]; omega
  simp only [wp_X6_holds, hs, c1, c2, c3, not_false_eq_true, true_implies, false_implies, true_and]
theorem e_body {σ : St} {su f m p q : Nat} {Q : Int32 → St → Prop} (hs : σ 15 5 = nI su) (hs2 : su ≤ 80) (hm : 1 ≤ m) (hf : f + m ≤ su) (hp : σ 18 f = nI p) (hq : σ 19 (f + m - 1) = nI q) (hpq : p ≤ q) : wp_X6_body σ (nI f) (nI m) Q = Q (nI (q - p)) σ := by
  have c1 : vp_in (nI (f + m - 1)) 80 := by simp (disch := omega) only [nI_add, nI_eq, nI_leI, nI_ltI, pk_sub, pk_mul, nI_clamp, nI_eqm1, nI_lt0, vp_in_iffN]; omega
  have c2 : vp_in (nI f) 80 := by simp (disch := omega) only [nI_add, nI_eq, nI_leI, nI_ltI, pk_sub, pk_mul, nI_clamp, nI_eqm1, nI_lt0, vp_in_iffN]; omega
  have e : nI f + nI m - nI 1 = nI (f + m - 1) := by simp (disch := omega) only [nI_add, nI_eq, nI_leI, nI_ltI, pk_sub, pk_mul, nI_clamp, nI_eqm1, nI_lt0, vp_in_iffN]
  simp only [wp_X6_body, e_holds hs hs2 hm hf, e, c1, c2, nI10, not_false_eq_true, true_implies, false_implies, true_and, nI_clamp (show f < 2 ^ 31 by omega), nI_clamp (show f + m - 1 < 2 ^ 31 by omega), hp, hq, pk_sub hpq]
theorem e_behindLine {σ : St} {su f m : Nat} {Q : Int32 → St → Prop} (hs : σ 15 5 = nI su) (hs2 : su ≤ 80) (hm : 1 ≤ m) (hf : f + m ≤ su) : wp_X6_behindLine σ (nI f) (nI m) Q = Q (σ 20 (f + m - 1)) σ := by
  have c1 : vp_in (nI (f + m - 1)) 80 := by simp (disch := omega) only [nI_add, nI_eq, nI_leI, nI_ltI, pk_sub, pk_mul, nI_clamp, nI_eqm1, nI_lt0, vp_in_iffN]; omega
  have e : nI f + nI m - nI 1 = nI (f + m - 1) := by simp (disch := omega) only [nI_add, nI_eq, nI_leI, nI_ltI, pk_sub, pk_mul, nI_clamp, nI_eqm1, nI_lt0, vp_in_iffN]
  simp only [wp_X6_behindLine, e_holds hs hs2 hm hf, e, c1, nI10, not_false_eq_true, true_implies, false_implies, true_and, nI_clamp (show f + m - 1 < 2 ^ 31 by omega)]
theorem e_signsOf {σ : St} {su f m p q : Nat} {Q : Int32 → St → Prop} (hs : σ 15 5 = nI su) (hs2 : su ≤ 80) (hm : 1 ≤ m) (hf : f + m ≤ su) (hp : σ 18 f = nI p) (hq : σ 19 (f + m - 1) = nI q) (hpq : p ≤ q) : wp_X6_signsOf σ (nI f) (nI m) Q = Q (nI (q - p + (if σ 20 (f + m - 1) = nI 45 then 1 else 0))) σ := by
  simp only [wp_X6_signsOf, e_body hs hs2 hm hf hp hq hpq, e_behindLine hs hs2 hm hf, nI_add]
  by_cases c : σ 20 (f + m - 1) = nI 45 <;> simp [c]
theorem e_signAt6 {σ : St} {su f m p q i : Nat} {Q : Int32 → St → Prop} (hs : σ 15 5 = nI su) (hs2 : su ≤ 80) (hm : 1 ≤ m) (hf : f + m ≤ su) (hp : σ 18 f = nI p) (hq : σ 19 (f + m - 1) = nI q) (hpq : p ≤ q) (hq2 : q ≤ 1920) (hi : i < q - p + (if σ 20 (f + m - 1) = nI 45 then 1 else 0)) : wp_X6_signAt σ (nI f) (nI m) (nI i) Q = if i < q - p then Q (σ 16 (p + i)) σ else Q (nI 45) σ := by
  have hi2 : i ≤ q - p := by split at hi <;> omega
  have c0 : ¬ nI i < nI 0 := by simp (disch := omega) only [nI_add, nI_eq, nI_leI, nI_ltI, pk_sub, pk_mul, nI_clamp, nI_eqm1, nI_lt0, vp_in_iffN]; omega
  have c1 : nI i < nI (q - p + (if σ 20 (f + m - 1) = nI 45 then 1 else 0)) := by
    rw [nI_ltI (by omega) (by split <;> omega)]
    exact hi
  have c2 : vp_in (nI f) 80 := by simp (disch := omega) only [nI_add, nI_eq, nI_leI, nI_ltI, pk_sub, pk_mul, nI_clamp, nI_eqm1, nI_lt0, vp_in_iffN]; omega
  simp only [wp_X6_signAt, c0, c1, c2, e_signsOf hs hs2 hm hf hp hq hpq, e_body hs hs2 hm hf hp hq hpq, not_false_eq_true, true_implies, not_true_eq_false, false_implies, true_and, and_true, nI_clamp (show f < 2 ^ 31 by omega), hp, nI_add]
  by_cases c : i < q - p
  · have c3 : ¬ nI (q - p) ≤ nI i := by simp (disch := omega) only [nI_add, nI_eq, nI_leI, nI_ltI, pk_sub, pk_mul, nI_clamp, nI_eqm1, nI_lt0, vp_in_iffN]; omega
    have c4 : vp_in (nI (p + i)) 1920 := by simp (disch := omega) only [nI_add, nI_eq, nI_leI, nI_ltI, pk_sub, pk_mul, nI_clamp, nI_eqm1, nI_lt0, vp_in_iffN]; omega
    simp only [c, c3, c4, if_true, not_false_eq_true, true_implies, false_implies, true_and, nI_clamp (show p + i < 2 ^ 31 by omega)]
  · have c3 : nI (q - p) ≤ nI i := by simp (disch := omega) only [nI_add, nI_eq, nI_leI, nI_ltI, pk_sub, pk_mul, nI_clamp, nI_eqm1, nI_lt0, vp_in_iffN]; omega
    simp only [c, c3, if_false, not_true_eq_false, true_implies, false_implies, and_true]
/-- sign i of line k of the class's setting -/
theorem e_signAt5 {σ : St} {nl : Nat} {fs mn ns : Nat → Nat} {sg : Nat → Nat → Int32} {k : Nat} {i : Nat} {Q : Int32 → St → Prop} (ht : σ 14 4 = nI 1) (hC : CSet σ nl fs mn ns sg) (hk : k < nl) (hi : i < 2 ^ 31) : wp_X5_signAt σ (nI k) (nI i) Q = if i < ns k then Q (sg k i) σ else Q (-1) σ := by
  obtain ⟨hn, hn2, su, bg, en, s1, s2, s3, s4⟩ := hC
  obtain ⟨l1, l2, l3, l4, l5, l6, l7, l8, l9, l10⟩ := s4 k hk
  have c : vp_in (nI k) 80 := by simp (disch := omega) only [nI_add, nI_eq, nI_leI, nI_ltI, pk_sub, pk_mul, nI_clamp, nI_eqm1, nI_lt0, vp_in_iffN]; omega
  have hp := (s3 (fs k) (by omega)).1
  have hq := (s3 (fs k + mn k - 1) (by omega)).2
  simp only [wp_X5_signAt, e_has5k ht hn2 hn hk, c, nI10, not_false_eq_true, true_implies, false_implies, true_and, nI_clamp (show k < 2 ^ 31 by omega), l1, l2]
  by_cases ci : i < ns k
  · rw [e_signAt6 s2 s1 l3 l4 hp hq l5 l6 (by rw [← l7]; exact ci)]
    simp only [ci, if_true]
    by_cases cj : i < en (fs k + mn k - 1) - bg (fs k)
    · simp only [cj, if_true, l9 i cj]
    · simp only [cj, if_false]
      rw [l7] at ci
      by_cases cb : σ 20 (fs k + mn k - 1) = nI 45
      · simp only [cb, if_true] at ci
        obtain rfl : i = en (fs k + mn k - 1) - bg (fs k) := by omega
        rw [l10 cb]
      · simp only [cb, if_false] at ci
        omega
  · have c0 : ¬ nI i < nI 0 := by simp (disch := omega) only [nI_add, nI_eq, nI_leI, nI_ltI, pk_sub, pk_mul, nI_clamp, nI_eqm1, nI_lt0, vp_in_iffN]; omega
    have c1 : ¬ nI i < nI (ns k) := by simp (disch := omega) only [nI_add, nI_eq, nI_leI, nI_ltI, pk_sub, pk_mul, nI_clamp, nI_eqm1, nI_lt0, vp_in_iffN]; omega
    simp only [wp_X6_signAt, c0, e_signsOf s2 s1 l3 l4 hp hq l5, ← l7, c1, ci, if_false, not_false_eq_true, true_implies, false_implies, true_and]
theorem e_signAt5n {σ : St} {nl : Nat} {fs mn ns : Nat → Nat} {sg : Nat → Nat → Int32} {k : Nat} {x : Int32} {Q : Int32 → St → Prop} (ht : σ 14 4 = nI 1) (hC : CSet σ nl fs mn ns sg) (hk : k < nl) (hx : x < nI 0) : wp_X5_signAt σ (nI k) x Q = Q (-1) σ := by
  obtain ⟨hn, hn2, su, bg, en, s1, s2, s3, s4⟩ := hC
  have c : vp_in (nI k) 80 := by simp (disch := omega) only [nI_add, nI_eq, nI_leI, nI_ltI, pk_sub, pk_mul, nI_clamp, nI_eqm1, nI_lt0, vp_in_iffN]; omega
  simp only [wp_X5_signAt, e_has5k ht hn2 hn hk, c, nI10, not_false_eq_true, true_implies, not_true_eq_false, false_implies, true_and, and_true, wp_X6_signAt, hx]
theorem op_sign {σ τ : St} (h : Rel σ τ) (x y : Int32) : wp_X10_sign σ x y (fun r σ' => wp_X11_sign τ x y (fun r' τ' => r = r' ∧ Rel σ' τ')) := by
  obtain ⟨hT, hF, ⟨u, z, b, L, hO, hC, hM, hK, s1, s2, s3, s4, s5, s6⟩, hR⟩ := id h
  simp only [wp_X10_sign, wp_X11_sign, s4]
  rcases s1 with s | s
  · simp [wp_X5_signAt, e_has5, s, h]
  · obtain ⟨nl, fs, mn, ns, sg, q1, q2, -⟩ := s6 s
    have hn := q1.1
    simp only [s, q2.1, nI10, not_false_eq_true, true_implies, false_implies, true_and]
    rcases ix3 x (n := nl) (by omega) with c | ⟨c, c2⟩ | ⟨k, hk, rfl⟩
    · simp [wp_X5_signAt, e_has5, s, c, h, nI10]
    · simp [wp_X5_signAt, e_has5, s, c, c2, q1.2.1, h, nI10]
    · have c1 : ¬ nI k < nI 0 := by simp (disch := omega) only [nI_add, nI_eq, nI_leI, nI_ltI, pk_sub, pk_mul, nI_clamp, nI_eqm1, nI_lt0, vp_in_iffN]; omega
      have c2 : ¬ nI nl ≤ nI k := by simp (disch := omega) only [nI_add, nI_eq, nI_leI, nI_ltI, pk_sub, pk_mul, nI_clamp, nI_eqm1, nI_lt0, vp_in_iffN]; omega
      have c3 : vp_in (nI k) 80 := by simp (disch := omega) only [nI_add, nI_eq, nI_leI, nI_ltI, pk_sub, pk_mul, nI_clamp, nI_eqm1, nI_lt0, vp_in_iffN]; omega
      obtain ⟨m1, m2, m3, m4⟩ := q2.2 k hk
      have l8 : ns k ≤ 60 := by
        obtain ⟨-, -, su, bg, en, -, -, -, s9⟩ := q1
        exact (s9 k hk).2.2.2.2.2.2.2.1
      simp only [c1, c2, c3, not_false_eq_true, true_implies, not_true_eq_false, false_implies, and_true, true_and, nI_clamp (show k < 2 ^ 31 by omega), m3]
      by_cases cy : y < nI 0
      · rw [e_signAt5n s q1 hk cy]
        simp [cy, h]
      · obtain ⟨i, hi, rfl⟩ := nI_of cy
        rw [e_signAt5 s q1 hk hi]
        by_cases ci : i < ns k
        · have c4 : ¬ nI (ns k) ≤ nI i := by simp (disch := omega) only [nI_add, nI_eq, nI_leI, nI_ltI, pk_sub, pk_mul, nI_clamp, nI_eqm1, nI_lt0, vp_in_iffN]; omega
          have c5 : vp_in (nI (60 * k + i)) 4800 := by simp (disch := omega) only [nI_add, nI_eq, nI_leI, nI_ltI, pk_sub, pk_mul, nI_clamp, nI_eqm1, nI_lt0, vp_in_iffN]; omega
          simp only [ci, cy, c4, c5, if_true, pk_mul, nI_add, not_false_eq_true, true_implies, false_implies, true_and, nI_clamp (show 60 * k + i < 2 ^ 31 by omega), m4 i ci]
          exact h
        · have c4 : nI (ns k) ≤ nI i := by simp (disch := omega) only [nI_add, nI_eq, nI_leI, nI_ltI, pk_sub, pk_mul, nI_clamp, nI_eqm1, nI_lt0, vp_in_iffN]; omega
          simp only [ci, cy, c4, if_false, not_false_eq_true, true_implies, not_true_eq_false, false_implies, true_and, and_true]
          exact h
theorem op_line {σ τ : St} (h : Rel σ τ) (x y : Int32) : wp_X10_line σ x y (fun r σ' => wp_X11_line τ x y (fun r' τ' => r = r' ∧ Rel σ' τ')) := by
  obtain ⟨hT, hF, ⟨u, z, b, L, hO, hC, hM, hK, s1, s2, s3, s4, s5, s6⟩, hMe, ⟨r, t, p1, p2, p3, p4, p5, p6, p7, p8⟩, hR⟩ := id h
  simp only [wp_X10_line, wp_X11_line, s4]
  rcases s1 with s | s
  · simp [e_has5, s, h]
  · obtain ⟨nl, fs, mn, ns, sg, q1, q2, -⟩ := s6 s
    have hn := q1.1
    simp only [s, q2.1, nI10, not_false_eq_true, true_implies, false_implies, true_and]
    rcases ix3 x (n := nl) (by omega) with c | ⟨c, c2⟩ | ⟨k, hk, rfl⟩
    · simp [e_has5, s, c, h, nI10]
    · simp [e_has5, s, c, c2, q1.2.1, h, nI10, Int32.not_lt.mpr c2]
    · have c1 : ¬ nI k < nI 0 := by simp (disch := omega) only [nI_add, nI_eq, nI_leI, nI_ltI, pk_sub, pk_mul, nI_clamp, nI_eqm1, nI_lt0, vp_in_iffN]; omega
      have c2 : nI k < nI nl := by simp (disch := omega) only [nI_add, nI_eq, nI_leI, nI_ltI, pk_sub, pk_mul, nI_clamp, nI_eqm1, nI_lt0, vp_in_iffN]; omega
      have c3 : vp_in (nI k) 80 := by simp (disch := omega) only [nI_add, nI_eq, nI_leI, nI_ltI, pk_sub, pk_mul, nI_clamp, nI_eqm1, nI_lt0, vp_in_iffN]; omega
      obtain ⟨m1, m2, m3, m4⟩ := q2.2 k hk
      have hr0 : ¬ nI r = nI 0 := by simp (disch := omega) only [nI_add, nI_eq, nI_leI, nI_ltI, pk_sub, pk_mul, nI_clamp, nI_eqm1, nI_lt0, vp_in_iffN]; omega
      have ht0 : ¬ nI t = nI 0 := by simp (disch := omega) only [nI_add, nI_eq, nI_leI, nI_ltI, pk_sub, pk_mul, nI_clamp, nI_eqm1, nI_lt0, vp_in_iffN]; omega
      rw [e_has5k s q1.2.1 hn hk]
      obtain ⟨-, hn2, su, bg, en, g1, g2, g3, g4⟩ := q1
      obtain ⟨l1, l2, l3, l4, l5, l6, l7, l8, l9, l10⟩ := g4 k hk
      simp only [wp_X5_first, wp_X5_unitsIn, wp_X5_signsIn, wp_X2_tintOf, wp_X2_pageOf, e_has5k s hn2 hn hk, c1, c2, c3, nI10, not_false_eq_true, true_implies, not_true_eq_false, false_implies, and_true, true_and, nI_clamp (show k < 2 ^ 31 by omega), l1, l2, m1, m2, m3, p5, p6, p7, p8, hr0, ht0, e_signsOf g2 g1 l3 l4 (g3 (fs k) (by omega)).1 (g3 (fs k + mn k - 1) (by omega)).2 l5, ← l7]
      by_cases y0 : y = nI 0
      · simp [y0, h]
      · by_cases y1 : y = nI 1
        · simp [y1, h, nI10]
        · by_cases y2 : y = nI 2
          · simp [y2, h, show ¬ nI 2 = nI 0 by decide, show ¬ nI 2 = nI 1 by decide]
          · by_cases y3 : y = nI 3
            · simp [y3, h, show ¬ nI 3 = nI 0 by decide, show ¬ nI 3 = nI 1 by decide, show ¬ nI 3 = nI 2 by decide]
            · by_cases y4 : y = nI 4
              · simp [y4, h, show ¬ nI 4 = nI 0 by decide, show ¬ nI 4 = nI 1 by decide, show ¬ nI 4 = nI 2 by decide, show ¬ nI 4 = nI 3 by decide]
              · simp [y0, y1, y2, y3, y4, h]
