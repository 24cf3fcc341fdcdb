theorem op_put {σ τ : St} (h : Rel σ τ) (x : Int32) : wp_X10_put σ x (fun r σ' => wp_X11_put τ x (fun r' τ' => r = r' ∧ Rel σ' τ')) := by
  obtain ⟨⟨n, hn, t1, t2, t3⟩, hF, ⟨u, z, b, L, hO, hC, hM, hK, hS⟩, hMe, hP, hR⟩ := id h
  have hu := hO.1
  have ef : fin_ (σ 2) n = fin_ (τ 5) n := fin_congr t3
  have none : Rel (up2 σ 1 1 (nI 0)) (up2 τ 0 6 (nI 0)) := ⟨⟨0, by omega, rfl, rfl, fun i hi => by omega⟩, hF, ⟨u, z, b, L, hO, hC, hM, hK, hS⟩, hMe, hP, hR⟩
  unfold wp_X10_put
  rcases ix3 x (n := u) (by omega) with g | ⟨g, g2⟩ | ⟨k, hk, rfl⟩
  · simp only [wp_X9_isWholeWord, e_has9, g, true_or, not_true_eq_false, not_false_eq_true, true_implies, false_implies, and_true, true_and, wp_X7_clear, wp_X11_put]
    exact none
  · simp only [wp_X9_isWholeWord, e_has9, g, g2, hC.1, hM.1, or_true, not_true_eq_false, not_false_eq_true, true_implies, false_implies, and_true, true_and, wp_X7_clear, wp_X11_put]
    exact none
  · have g1 : ¬ nI k < nI 0 := by simp (disch := omega) only [nI_add, nI_eq, nI_leI, nI_ltI, pk_sub, pk_mul, nI_clamp, nI_eqm1, nI_lt0, vp_in_iffN]; omega
    have g2 : ¬ nI u ≤ nI k := by simp (disch := omega) only [nI_add, nI_eq, nI_leI, nI_ltI, pk_sub, pk_mul, nI_clamp, nI_eqm1, nI_lt0, vp_in_iffN]; omega
    have g3 : vp_in (nI k) 80 := by simp (disch := omega) only [nI_add, nI_eq, nI_leI, nI_ltI, pk_sub, pk_mul, nI_clamp, nI_eqm1, nI_lt0, vp_in_iffN]; omega
    have bk : τ 3 k = σ 11 k := by rw [(hM.2 k hk).2.1, (hC.2 k hk).2.1]
    -- the reference's call, where the word is whole, and where it isn't
    have mod0 : ¬ whole_ (σ 11) k → ∀ Q : Int32 → St → Prop, Q (-1) (up2 τ 0 6 (nI 0)) → wp_X11_put τ (nI k) Q := by
      intro hw Q hQ
      simp only [wp_X11_put, hM.1, g1, g2, g3, nI_clamp (show k < 2 ^ 31 by omega), bk, not_true_eq_false, not_false_eq_true, true_implies, false_implies, and_true, true_and]
      refine ⟨fun _ => hQ, fun q45 => ⟨fun q0 => ?_, fun q0 => ?_⟩⟩
      · rw [nI_leI (by omega) (by decide)] at q0
        exact absurd ⟨q45, Or.inl (by omega)⟩ hw
      · rw [nI_leI (by omega) (by decide)] at q0
        rw [pk_sub (show 1 ≤ k by omega), nI_clamp (show k - 1 < 2 ^ 31 by omega)]
        have bk1 : τ 3 (k - 1) = σ 11 (k - 1) := by rw [(hM.2 (k - 1) (by omega)).2.1, (hC.2 (k - 1) (by omega)).2.1]
        refine ⟨by simp (disch := omega) only [nI_add, nI_eq, nI_leI, nI_ltI, pk_sub, pk_mul, nI_clamp, nI_eqm1, nI_lt0, vp_in_iffN]; omega, fun q2 => ?_, fun _ => hQ⟩
        rw [bk1] at q2
        exact absurd ⟨q45, Or.inr q2⟩ hw
    have mod1 : whole_ (σ 11) k → ∀ Q : Int32 → St → Prop, wp_X11_isText τ (fun r5 σ6 => (r5 = (nI 0) → Q (-2) σ6) ∧ (¬ r5 = (nI 0) → (((σ6 0 9) = (nI 0) → Q (-2) σ6) ∧ (¬ (σ6 0 9) = (nI 0) → (((((σ6 0 0) - (nI 1)) + (σ6 0 9)) ≤ (nI 80) → (∃ k22, wpl_X11_put_94 (nI k) ((σ6 0 9) - (nI 1)) Q k22 σ6 ((σ6 0 0) - (nI 1)))) ∧ (¬ (((σ6 0 0) - (nI 1)) + (σ6 0 9)) ≤ (nI 80) → Q (-2) σ6)))))) → wp_X11_put τ (nI k) Q := by
      intro hw Q hQ
      simp only [wp_X11_put, hM.1, g1, g2, g3, nI_clamp (show k < 2 ^ 31 by omega), bk, not_true_eq_false, not_false_eq_true, true_implies, false_implies, and_true, true_and]
      refine ⟨fun q45 => absurd q45 hw.1, fun q45 => ⟨fun q0 => hQ, fun q0 => ?_⟩⟩
      rw [nI_leI (by omega) (by decide)] at q0
      rw [pk_sub (show 1 ≤ k by omega), nI_clamp (show k - 1 < 2 ^ 31 by omega)]
      have bk1 : τ 3 (k - 1) = σ 11 (k - 1) := by rw [(hM.2 (k - 1) (by omega)).2.1, (hC.2 (k - 1) (by omega)).2.1]
      refine ⟨by simp (disch := omega) only [nI_add, nI_eq, nI_leI, nI_ltI, pk_sub, pk_mul, nI_clamp, nI_eqm1, nI_lt0, vp_in_iffN]; omega, fun _ => hQ, fun q2 => ?_⟩
      rw [bk1] at q2
      exact absurd q2 (hw.2.elim (fun e => by omega) id)
    refine p_isWhole hC.1 hu hk (fun hw => ?_) (fun hw => ?_)
    · simp only [nI10, not_true_eq_false, not_false_eq_true, true_implies, false_implies, and_true, true_and]
      unfold wp_X10_readTape
      refine p_read hn t1 (fun st r zr br Lr σ' he hCr hOr k1 k2 hfr => ?_) (fun kk p σ' he hk1 hk3 k1 k2 hfr => ?_)
      · have e := fr5 hfr
        generalize hf3 : σ' 3 = f3 at e k1 k2
        generalize hf4 : σ' 4 = f4 at e
        generalize hf5 : σ' 5 = f5 at e
        generalize hf6 : σ' 6 = f6 at e
        generalize hf7 : σ' 7 = f7 at e
        have hCr : f4 3 = nI r ∧ ∀ k, k < r → f6 k = nI (zr k) ∧ f7 k = br k ∧ ∀ i, i < zr k → f5 (20 * k + i) = Lr k i := by
          have := hCr
          unfold CR at this
          rw [hf4, hf5, hf6, hf7] at this
          exact this
        clear hf3 hf4 hf5 hf6 hf7
        subst e
        unfold wp_X7_clear wp_X3_units wp_X9_count_at4 wp_X3_hasFault
        have k1' : (up2 (upA (upA (upA (upA (upA σ 3 f3) 4 f4) 5 f5) 6 f6) 7 f7) 1 1 (nI 0)) 3 1 = nI 0 := k1
        have c4 : (up2 (upA (upA (upA (upA (upA σ 3 f3) 4 f4) 5 f5) 6 f6) 7 f7) 1 1 (nI 0)) 4 3 = nI r := hCr.1
        have hr80 := hOr.1
        have c8 : (up2 (upA (upA (upA (upA (upA σ 3 f3) 4 f4) 5 f5) 6 f6) 7 f7) 1 1 (nI 0)) 8 3 = nI u := hC.1
        simp only [k1', c4, wp_X9_count_at8, c8, not_true_eq_false, not_false_eq_true, true_implies, false_implies, and_true, true_and]
        -- what the reference makes of it
        have ref2 : ∀ (g3 : Nat → Int32), g3 1 = nI 0 → g3 2 = -1 → ∀ (ρ : St), (ρ = up2 (upA (upA (upA (upA (upA σ 3 g3) 4 f4) 5 f5) 6 f6) 7 f7) 1 1 (nI 0)) → (r = 0 ∨ ¬ u + (r - 1) ≤ 80) → wp_X11_put τ (nI k) (fun r' τ' => -2 = r' ∧ Rel ρ τ') := by
          intro g3 e1 e2 ρ hρ hbad
          refine mod1 hw _ (p_isText hn t2 (fun st' u' z' b' L' τ' he' hM' hO' hfr' => ?_) (fun k' p' τ' he' hfr' => ?_))
          · rw [← ef, he] at he'
            cases he'
            obtain ⟨rr, g6, g7, g8, rfl⟩ := hfr'.form
            have m9 : (upA (upA (upA (up2 (up2 (up2 (up2 τ 0 6 (nI 0)) 0 7 (nI 0)) 0 8 (-1)) 0 9 rr) 6 g6) 7 g7) 8 g8) 0 9 = nI r := hM'.1
            have m0 : (upA (upA (upA (up2 (up2 (up2 (up2 τ 0 6 (nI 0)) 0 7 (nI 0)) 0 8 (-1)) 0 9 rr) 6 g6) 7 g7) 8 g8) 0 0 = nI u := hM.1
            have rel : Rel ρ (upA (upA (upA (up2 (up2 (up2 (up2 τ 0 6 (nI 0)) 0 7 (nI 0)) 0 8 (-1)) 0 9 rr) 6 g6) 7 g7) 8 g8) := by
              subst hρ
              exact ⟨⟨0, by omega, rfl, rfl, fun i hi => by omega⟩, ⟨e1, e2⟩, ⟨u, z, b, L, hO, hC, hM, hK, hS⟩, hMe, hP, hR⟩
            simp only [nI10, m9, m0, not_true_eq_false, not_false_eq_true, true_implies, false_implies, and_true, true_and]
            refine ⟨fun _ => rel, fun hr0 => ⟨fun q => ?_, fun _ => rel⟩⟩
            have hr1 : r ≠ 0 := fun e => hr0 (by rw [e])
            rw [pk_sub (show 1 ≤ u by omega), nI_add, nI_leI (by omega) (by decide)] at q
            omega
          · rw [← ef, he] at he'
            cases he'
        refine ⟨fun q => ?_, fun q => ⟨fun q2 => ?_, fun q2 => ?_⟩⟩
        · refine ref2 f3 k1 k2 _ rfl (Or.inl ?_)
          rcases Nat.eq_zero_or_pos r with e | e
          · exact e
          · rw [pk_sub e, nI_ltI (by omega) (by decide)] at q; omega
        · have hr : 1 ≤ r := by
            rcases Nat.eq_zero_or_pos r with e | e
            · subst e; exact absurd (by decide) q
            · exact e
          rw [pk_sub hr] at q2 ⊢
          rw [nI_add, nI_leI (by omega) (by decide)] at q2
          refine p_replace hO hC hOr hCr hk hr q2 (fun f9 f10 f11 hff => ?_)
          obtain ⟨c, c1, c2, c3, c4'⟩ := hK
          refine p_moveBehind c1 c2 (fun f28 hf28 => ?_)
          unfold wp_X5_outdate
          refine mod1 hw _ (p_isText hn t2 (fun st' u' z' b' L' τ' he' hM' hO' hfr' => ?_) (fun k' p' τ' he' hfr' => ?_))
          · rw [← ef, he] at he'
            cases he'
            obtain ⟨rr, g6, g7, g8, rfl⟩ := hfr'.form
            have m9 : (upA (upA (upA (up2 (up2 (up2 (up2 τ 0 6 (nI 0)) 0 7 (nI 0)) 0 8 (-1)) 0 9 rr) 6 g6) 7 g7) 8 g8) 0 9 = nI r := hM'.1
            have m0 : (upA (upA (upA (up2 (up2 (up2 (up2 τ 0 6 (nI 0)) 0 7 (nI 0)) 0 8 (-1)) 0 9 rr) 6 g6) 7 g7) 8 g8) 0 0 = nI u := hM.1
            have hr0 : ¬ nI r = nI 0 := nIc (by omega) (by decide) (by omega)
            have hle : nI (u - 1) + nI r ≤ nI 80 := by simp (disch := omega) only [nI_add, nI_eq, nI_leI, nI_ltI, pk_sub, pk_mul, nI_clamp, nI_eqm1, nI_lt0, vp_in_iffN]; omega
            simp only [nI10, m9, m0, hr0, pk_sub (show 1 ≤ u by omega), pk_sub hr, hle, not_true_eq_false, not_false_eq_true, true_implies, false_implies, and_true, true_and]
            refine p_putLoops hO (fun j hj => ⟨(hM.2 j hj).1, (hM.2 j hj).2.1, (hM.2 j hj).2.2.1⟩) hM.1 hOr hM' hk hr q2 c1 c3 (fun m1 m2 m3 m4 m17 hmm hm17 => ⟨rfl, ?_⟩)
            refine ⟨⟨0, by omega, rfl, rfl, fun i hi => by omega⟩, ⟨k1, k2⟩, ⟨u + (r - 1), _, _, _, spl_ok hO hOr hk hr q2, ⟨rfl, hff⟩, ⟨rfl, fun j hj => ?_⟩, ⟨c, c1, c2, c3, fun m hm => ?_⟩, ⟨hS.1, Or.inl rfl, Or.inl rfl, hS.2.2.2.1, ⟨fun q => absurd q nI01, fun q => absurd q.2 nI01⟩, fun q => ?_⟩⟩, hMe, hP, hR⟩
            · obtain ⟨⟨a1, a2, a3⟩, a4⟩ := hmm j hj
              exact ⟨a1, a2, a3, a4⟩
            · obtain ⟨d1, d2, j, hj, d3⟩ := c4' m hm
              have e1 : f28 m = if σ 28 m ≤ nI k then σ 28 m else σ 28 m + nI (r - 1) := hf28 m hm
              have e2 : m17 m = if τ 17 m ≤ nI k then τ 17 m else τ 17 m + nI (r - 1) := hm17 m hm
              refine ⟨?_, d2, ?_⟩
              · show f28 m = m17 m
                rw [e1, e2, d1]
              · show ∃ j', j' < u + (r - 1) ∧ f28 m = nI j'
                rw [e1, d3]
                by_cases hjk : nI j ≤ nI k
                · rw [if_pos hjk]; exact ⟨j, by omega, rfl⟩
                · rw [if_neg hjk, nI_add]; exact ⟨j + (r - 1), by omega, rfl⟩
            · obtain ⟨nl, fs, mn, ns, sg, a1, a2, -⟩ := hS.2.2.2.2.2 q
              exact ⟨nl, fs, mn, ns, sg, a1, a2, fun q2 => absurd q2 nI01⟩
          · rw [← ef, he] at he'
            cases he'
        · refine ref2 f3 k1 k2 _ rfl (Or.inr ?_)
          have hr : 1 ≤ r := by
            rcases Nat.eq_zero_or_pos r with e | e
            · subst e; exact absurd (by decide) q
            · exact e
          rw [pk_sub hr, nI_add, nI_leI (by omega) (by decide)] at q2
          exact q2
      · have e := fr5 hfr
        generalize σ' 3 = f3 at e k1 k2
        generalize σ' 4 = f4 at e
        generalize σ' 5 = f5 at e
        generalize σ' 6 = f6 at e
        generalize σ' 7 = f7 at e
        subst e
        unfold wp_X7_clear wp_X3_units wp_X9_count_at4 wp_X3_hasFault
        have k1' : (up2 (upA (upA (upA (upA (upA σ 3 f3) 4 f4) 5 f5) 6 f6) 7 f7) 1 1 (nI 0)) 3 1 = nI kk := k1
        have hk0 : ¬ nI kk = nI 0 := nIc (by omega) (by decide) (by omega)
        simp only [k1', hk0, nI10, not_true_eq_false, not_false_eq_true, true_implies, false_implies, and_true, true_and]
        refine mod1 hw _ (p_isText hn t2 (fun st' u' z' b' L' τ' he' hM' hO' hfr' => ?_) (fun k' p' τ' he' hfr' => ?_))
        · rw [← ef, he] at he'
          cases he'
        · rw [← ef, he] at he'
          cases he'
          simp only [not_true_eq_false, true_implies, false_implies, true_and, and_true]
          obtain ⟨r, g6, g7, g8, rfl⟩ := hfr'.form
          exact ⟨⟨0, by omega, rfl, rfl, fun i hi => by omega⟩, ⟨k1, k2⟩, ⟨u, z, b, L, hO, hC, hM, hK, hS⟩, hMe, hP, hR⟩
    · simp only [not_true_eq_false, not_false_eq_true, true_implies, false_implies, and_true, true_and, wp_X7_clear]
      exact mod0 hw _ ⟨rfl, none⟩
