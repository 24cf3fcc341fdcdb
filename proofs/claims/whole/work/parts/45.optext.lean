theorem FrM.form {τ τ' : St} {a p : Int32} (h : FrM τ τ' a p) : ∃ (r : Int32) (g6 g7 g8 : Nat → Int32), τ' = upA (upA (upA (up2 (up2 (up2 (up2 τ 0 6 (nI 0)) 0 7 a) 0 8 p) 0 9 r) 6 g6) 7 g7) 8 g8 := by
  obtain ⟨h1, h2, h3, h4, h5⟩ := h
  refine ⟨τ' 0 9, τ' 6, τ' 7, τ' 8, ?_⟩
  funext c
  by_cases c8 : c = 8
  · subst c8; rw [upA_same]
  · rw [upA_ne c8]
    by_cases c7 : c = 7
    · subst c7; rw [upA_same]
    · rw [upA_ne c7]
      by_cases c6 : c = 6
      · subst c6; rw [upA_same]
      · rw [upA_ne c6]
        by_cases c0 : c = 0
        · subst c0
          funext i
          show τ' 0 i = upd (upd (upd (upd (τ 0) 6 (nI 0)) 7 a) 8 p) 9 (τ' 0 9) i
          by_cases i9 : i = 9
          · subst i9; rw [upd_same]
          · rw [upd_ne i9]
            by_cases i8 : i = 8
            · subst i8; rw [upd_same, h3]
            · rw [upd_ne i8]
              by_cases i7 : i = 7
              · subst i7; rw [upd_same, h2]
              · rw [upd_ne i7]
                by_cases i6 : i = 6
                · subst i6; rw [upd_same, h1]
                · rw [upd_ne i6, h5 i i6 i7 i8 i9]
        · rw [up2_ne c0, up2_ne c0, up2_ne c0, up2_ne c0, h4 c c0 c6 c7 c8]
theorem p_textLoop {τ : St} {u : Nat} {z : Nat → Nat} {b : Nat → Int32} {L : Nat → Nat → Int32} {Q : Int32 → St → Prop} (hO : OkT u z b L) (hM : MR τ u z b L) (h0 : τ 0 0 = nI u)
    (hQ : ∀ f1 f2 f3 f4 : Nat → Int32, (∀ k, k < u → f1 k = nI (z k) ∧ f3 k = b k ∧ (∀ i, i < z k → f2 (20 * k + i) = L k i) ∧ f4 k = nI (wn b k)) → Q (nI u) (up2 (up2 (up2 (upA (upA (upA (upA τ 1 f1) 2 f2) 3 f3) 4 f4) 0 24 (nI 0)) 0 25 (nI 0)) 0 33 (nI 0))) : ∃ k, wpl_X11_text_19 Q k τ (nI 0) := by
  have hu := hO.1
  have key : ∀ d k (f1 f2 f3 : Nat → Int32), k + d = u → (∀ j, j < k → f1 j = nI (z j) ∧ f3 j = b j ∧ ∀ i, i < z j → f2 (20 * j + i) = L j i) → wpl_X11_text_19 Q (d + 1) (upA (upA (upA τ 1 f1) 2 f2) 3 f3) (nI k) := by
    intro d
    induction d with
    | zero =>
      intro k f1 f2 f3 hk hf
      obtain rfl : k = u := by omega
      unfold wpl_X11_text_19
      have e : (upA (upA (upA τ 1 f1) 2 f2) 3 f3) 0 0 = nI k := h0
      rw [e]
      refine ⟨fun _ => ?_, fun c => absurd (Int32.le_refl _) c⟩
      refine p_words hu h0 (fun f4 hf4 => ?_)
      have e2 : upA (upA (upA (upA τ 1 f1) 2 f2) 3 f3) 4 f4 0 0 = nI k := h0
      rw [e2]
      refine hQ f1 f2 f3 f4 (fun j hj => ?_)
      obtain ⟨q1, q2, q3⟩ := hf j hj
      refine ⟨q1, q2, q3, ?_⟩
      rw [hf4 j hj]
      show nI (wn f3 j) = _
      rw [wn_congr (fun i hi => (hf i (by omega)).2.1)]
    | succ d ih =>
      intro k f1 f2 f3 hk hf
      unfold wpl_X11_text_19
      have e : (upA (upA (upA τ 1 f1) 2 f2) 3 f3) 0 0 = nI u := h0
      have c1 : ¬ nI u ≤ nI k := by simp (disch := omega) only [nI_add, nI_eq, nI_leI, nI_ltI, pk_sub, pk_mul, nI_clamp, nI_eqm1, nI_lt0, vp_in_iffN]; omega
      simp only [e, c1, not_false_eq_true, true_implies, false_implies, true_and, nI_add]
      obtain ⟨q1, q2, q3⟩ := hM.2 k (by omega)
      obtain ⟨o1, o2, o3, o4⟩ := hO.2 k (by omega)
      refine p_takes (zk := z k) (by omega) (by omega) o2 q1 (fun f2' g1 g2 => ?_)
      have es : upA (up2 (up2 (upA (upA (upA τ 1 f1) 2 f2) 3 f3) 1 k (nI (z k))) 3 k (upA (upA (upA τ 1 f1) 2 f2) 3 f3 8 k)) 2 f2' = upA (upA (upA τ 1 (upd f1 k (nI (z k)))) 2 f2') 3 (upd f3 k (τ 8 k)) := by
        funext c
        by_cases h3 : c = 3
        · subst h3; rfl
        · by_cases h2 : c = 2
          · subst h2; rfl
          · by_cases h1 : c = 1
            · subst h1; rfl
            · simp only [up2_ne h3, up2_ne h1, upA_ne h3, upA_ne h2, upA_ne h1]
      rw [es]
      refine ih (k + 1) _ _ _ (by omega) (fun j hj => ?_)
      by_cases hjk : j = k
      · subst hjk
        refine ⟨by rw [upd_same], by rw [upd_same, q2], fun i hi => ?_⟩
        rw [g1 i hi]
        exact q3 i hi
      · obtain ⟨r1, r2, r3⟩ := hf j (by omega)
        have hz := (hO.2 j (by omega)).2.1
        refine ⟨by rw [upd_ne hjk, r1], by rw [upd_ne hjk, r2], fun i hi => ?_⟩
        rw [g2 _ (by omega)]
        exact r3 i hi
  refine ⟨u + 1, ?_⟩
  have := key u 0 (τ 1) (τ 2) (τ 3) (by omega) (fun j hj => by omega)
  have e : upA (upA (upA τ 1 (τ 1)) 2 (τ 2)) 3 (τ 3) = τ := by
    funext c
    by_cases h3 : c = 3
    · subst h3; rfl
    · by_cases h2 : c = 2
      · subst h2; rfl
      · by_cases h1 : c = 1
        · subst h1; rfl
        · simp only [upA_ne h3, upA_ne h2, upA_ne h1]
  rw [e] at this
  exact this
theorem op_text {σ τ : St} (h : Rel σ τ) : wp_X10_text σ (fun r σ' => wp_X11_text τ (fun r' τ' => r = r' ∧ Rel σ' τ')) := by
  obtain ⟨⟨n, hn, t1, t2, t3⟩, hF, ⟨u0, z0, b0, L0, hO0, hC0, hM0, hK0, hS0⟩, hMe, hP, hR⟩ := id h
  have ef : fin_ (σ 2) n = fin_ (τ 5) n := fin_congr t3
  unfold wp_X10_text wp_X10_readTape
  refine p_read hn t1 (fun st u z b L σ' he hC hO k1 k2 hfr => ?_) (fun k p σ' he hk1 hk3 k1 k2 hfr => ?_)
  · have e := fr5 hfr
    generalize hf3 : σ' 3 = f3 at e k1 k2
    generalize hf4 : σ' 4 = f4 at e
    generalize hf5 : σ' 5 = f5 at e
    generalize hf6 : σ' 6 = f6 at e
    generalize hf7 : σ' 7 = f7 at e
    have hC : f4 3 = nI u ∧ ∀ k, k < u → f6 k = nI (z k) ∧ f7 k = b k ∧ ∀ i, i < z k → f5 (20 * k + i) = L k i := by
      have := hC
      unfold CR at this
      rw [hf4, hf5, hf6, hf7] at this
      exact this
    clear hf3 hf4 hf5 hf6 hf7
    subst e
    unfold wp_X7_clear wp_X3_hasFault
    have k1' : (up2 (upA (upA (upA (upA (upA σ 3 f3) 4 f4) 5 f5) 6 f6) 7 f7) 1 1 (nI 0)) 3 1 = nI 0 := k1
    simp only [k1', not_true_eq_false, true_implies, false_implies, and_true, true_and, wp_X3_units]
    refine p_takeAll hO hC (fun f9 f10 f11 hff => ?_)
    unfold wp_X5_drop wp_X0_drop wp_X9_count_at8 wp_X11_text
    refine p_isText hn t2 (fun st' u' z' b' L' τ' he' hM' hO' hfr' => ?_) (fun k' p' τ' he' hfr' => ?_)
    · rw [← ef, he] at he'
      cases he'
      simp only [nI10, not_false_eq_true, true_implies, false_implies, true_and, and_true]
      obtain ⟨r, g6, g7, g8, rfl⟩ := hfr'.form
      rw [show (upA (upA (upA (up2 (up2 (up2 (up2 τ 0 6 (nI 0)) 0 7 (nI 0)) 0 8 (-1)) 0 9 r) 6 g6) 7 g7) 8 g8) 0 9 = nI u from hM'.1]
      refine p_textLoop hO hM' rfl (fun m1 m2 m3 m4 hmm => ⟨rfl, ?_⟩)
      refine ⟨⟨0, by omega, rfl, rfl, fun i hi => by omega⟩, ⟨k1, k2⟩, ⟨u, z, b, L, hO, ⟨rfl, hff⟩, ⟨rfl, fun k hk => ?_⟩, ⟨0, by omega, rfl, rfl, fun m hm => by omega⟩, ⟨Or.inl rfl, hS0.2.1, Or.inl rfl, rfl, ⟨fun q => absurd q nI01, fun q => absurd q.1 nI01⟩, fun q => absurd q nI01⟩⟩, hMe, hP, hR⟩
      obtain ⟨a1, a2, a3, a4⟩ := hmm k hk
      exact ⟨a1, a2, a3, a4⟩
    · rw [← ef, he] at he'
      cases he'
  · have e := fr5 hfr
    generalize σ' 3 = f3 at e k1 k2
    generalize σ' 4 = f4 at e
    generalize σ' 5 = f5 at e
    generalize σ' 6 = f6 at e
    generalize σ' 7 = f7 at e
    subst e
    unfold wp_X7_clear wp_X3_hasFault
    have k1' : (up2 (upA (upA (upA (upA (upA σ 3 f3) 4 f4) 5 f5) 6 f6) 7 f7) 1 1 (nI 0)) 3 1 = nI k := k1
    have hk0 : ¬ nI k = nI 0 := nIc (by omega) (by decide) (by omega)
    simp only [k1', hk0, nI10, not_true_eq_false, not_false_eq_true, true_implies, false_implies, and_true, true_and]
    unfold wp_X11_text
    refine p_isText hn t2 (fun st' u' z' b' L' τ' he' hM' hO' hfr' => ?_) (fun k' p' τ' he' hfr' => ?_)
    · rw [← ef, he] at he'
      cases he'
    · rw [← ef, he] at he'
      cases he'
      simp only [not_true_eq_false, true_implies, false_implies, true_and, and_true]
      obtain ⟨r, g6, g7, g8, rfl⟩ := hfr'.form
      exact ⟨⟨0, by omega, rfl, rfl, fun i hi => by omega⟩, ⟨k1, k2⟩, ⟨u0, z0, b0, L0, hO0, hC0, hM0, hK0, hS0⟩, hMe, hP, hR⟩
