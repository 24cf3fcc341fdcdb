/-! set() of both -/
theorem Rel_set {σ τ σ' τ' : St} (h : Rel σ τ) (hs : ∀ c, c < 14 ∨ 25 < c → σ' c = σ c) (ht : ∀ c, c ≠ 0 → c < 10 ∨ 16 < c → τ' c = τ c) (h0 : ∀ i, i < 24 ∨ 26 < i → τ' 0 i = τ 0 i) {u : Nat} {z : Nat → Nat} {b : Nat → Int32} {L : Nat → Nat → Int32} (hO : OkT u z b L) (hC : CU σ u z b L) (hU : MU τ u z b L) (hMk : RMark u σ τ) (hS : RSet u σ' τ') : Rel σ' τ' := by
  obtain ⟨g1, g2, -, g4, g5, g6⟩ := h
  refine ⟨?_, ?_, ⟨u, z, b, L, hO, ?_, ?_, ?_, hS⟩, ?_, ?_, ?_⟩
  · unfold RTape at g1 ⊢
    rw [hs 1 (by omega), hs 2 (by omega), h0 6 (by omega), ht 5 (by omega) (by omega)]
    exact g1
  · unfold RFault at g2 ⊢
    rw [hs 3 (by omega), h0 7 (by omega), h0 8 (by omega)]
    exact g2
  · unfold CU at hC ⊢
    rw [hs 8 (by omega), hs 9 (by omega), hs 10 (by omega), hs 11 (by omega)]
    exact hC
  · exact MU_fr (h0 0 (by omega)) (ht 1 (by omega) (by omega)) (ht 2 (by omega) (by omega)) (ht 3 (by omega) (by omega)) (ht 4 (by omega) (by omega)) hU
  · unfold RMark at hMk ⊢
    rw [hs 27 (by omega), hs 28 (by omega), hs 29 (by omega), h0 33 (by omega), ht 17 (by omega) (by omega), ht 18 (by omega) (by omega)]
    exact hMk
  · obtain ⟨lg, sp, sh, ph, inn, ct, rv, lk, m1, m2, m3⟩ := g4
    refine ⟨lg, sp, sh, ph, inn, ct, rv, lk, m1, ?_, MM_fr (fun i hi => h0 i (by omega)) (ht 9 (by omega) (by omega)) m3⟩
    unfold CM at m2 ⊢
    rw [hs 12 (by omega), hs 13 (by omega)]
    exact m2
  · unfold RPage at g5 ⊢
    rw [hs 26 (by omega), h0 31 (by omega), h0 32 (by omega)]
    exact g5
  · unfold RTest at g6 ⊢
    rw [hs 30 (by omega), hs 31 (by omega), h0 36 (by omega), h0 37 (by omega), h0 38 (by omega), h0 39 (by omega), h0 40 (by omega), h0 41 (by omega), h0 42 (by omega), h0 43 (by omega)]
    exact g6
theorem op_set {σ τ : St} (h : Rel σ τ) : wp_X10_set σ (fun r σ' => wp_X11_set τ (fun r' τ' => r = r' ∧ Rel σ' τ')) := by
  obtain ⟨hT, hF, ⟨u, z, b, L, hO, hC, hU, hMk, hS⟩, ⟨lg, sp, sh, ph, inn, ct, rv, lk, hM, hcm, hmm⟩, hP, hTe⟩ := id h
  have hu := hO.1
  have hz1 : ∀ k, k < u → 1 ≤ z k := fun j hj => (hO.2 j hj).1
  have hlg := hM.2.1
  have hsp := hM.2.2.1
  unfold wp_X10_set wp_X1_longest
  rw [hcm.1]
  refine p_fitAlone (sp := sp) hO hC hlg (fun hfit => ?_) (fun hno => ?_)
  · refine ⟨fun _ => ?_, fun q => absurd q nI10⟩
    unfold wp_X1_spread wp_X5_begin_8
    rw [hcm.2.1]
    refine p_lay hO hC hM.2.2.2.1 (fun σ1 hS1 hf1 => ?_)
    generalize hσ2 : up2 (up2 (up2 σ1 14 3 (nI 0)) 14 4 (nI 1)) 14 5 (nI 1) = σ2
    have w2 : Strip σ2 u z b L sp := by subst hσ2; exact hS1
    have f2 : ∀ c, c < 14 ∨ 25 < c → σ2 c = σ c := by
      intro c hc
      subst hσ2
      rw [up2_ne (by omega), up2_ne (by omega), up2_ne (by omega)]
      exact hf1 c (by omega) (by omega) (by omega) (by omega) (by omega) (by omega)
    have a3 : σ2 14 3 = nI 0 := by subst hσ2; rfl
    have a4 : σ2 14 4 = nI 1 := by subst hσ2; rfl
    have a5 : σ2 14 5 = nI 1 := by subst hσ2; rfl
    clear hσ2 hS1 hf1 σ1
    have hW : CW_ σ2 u z b L lg sp sh ph inn ct rv lk := by
      refine ⟨w2, ?_⟩
      unfold CM at hcm ⊢
      rw [f2 12 (by omega), f2 13 (by omega)]
      exact hcm
    refine p_weighLines hO hM hW (fun c1 f24 f25 hTab => ?_)
    obtain ⟨nl, n1, n2, n3⟩ := ln_count (S := sg_ z b L sp u) (sh := sh) (ph := ph) (inn := inn) (ct := ct) (rv := rv) (lk := lk) hfit
    refine p_putLines (ρ := upA (upA (up2 σ2 23 4 c1) 24 f24) 25 f25) hO hM hW hTab a3 hfit n1 n2 n3 (fun c2 f21 f22 hrow => ?_)
    refine p_setFit hO hM hU hmm hfit n1 n2 n3 (fun f12 ρ hρ => ⟨rfl, ?_⟩)
    obtain ⟨s1, s2, s3, s4, s5, s6, s7⟩ := hρ
    refine Rel_set h (fun c hc => ?_) s1 s2 hO hC hU hMk ?_
    · rw [upA_ne (by omega), upA_ne (by omega), up2_ne (by omega), up2_ne (by omega), upA_ne (by omega), upA_ne (by omega), up2_ne (by omega)]
      exact f2 c hc
    · refine ⟨Or.inr a4, Or.inr a5, Or.inr s4, ?_, ⟨fun _ => ⟨a4, a5⟩, fun _ => s4⟩, fun _ => ⟨nl, fun i => (ln_ u z b (sg_ z b L sp u) lg sp sh ph inn ct rv lk i).1, fun i => (ln_ u z b (sg_ z b L sp u) lg sp sh ph inn ct rv lk i).2, fun i => NS_ z b sp (ln_ u z b (sg_ z b L sp u) lg sp sh ph inn ct rv lk i).1 (ln_ u z b (sg_ z b L sp u) lg sp sh ph inn ct rv lk i).2, fun i => sf_ z b L sp u (ln_ u z b (sg_ z b L sp u) lg sp sh ph inn ct rv lk i).1 (ln_ u z b (sg_ z b L sp u) lg sp sh ph inn ct rv lk i).2, ?_, ⟨s5, s7⟩, fun _ => ln_part n2⟩⟩
      · rw [s3]; exact a4.symm
      · obtain ⟨w21, ⟨w22, w23⟩, w24⟩ := w2
        have line : ∀ (ρ' : St) F N k, ρ' 20 (F + N - 1) = b (F + N - 1) → (∀ q, ρ' 16 q = σ2 16 q) → F < u → 1 ≤ N → N ≤ mx_ u z b sp lg F → ρ' 21 k = nI F → ρ' 22 k = nI N → (ρ' 21 k = nI F ∧ ρ' 22 k = nI N ∧ 1 ≤ N ∧ F + N ≤ u ∧ bg_ z b sp F ≤ en_ z b sp (F + N - 1) ∧ en_ z b sp (F + N - 1) ≤ 1920 ∧ NS_ z b sp F N = en_ z b sp (F + N - 1) - bg_ z b sp F + (if ρ' 20 (F + N - 1) = nI 45 then 1 else 0) ∧ NS_ z b sp F N ≤ 60 ∧ (∀ i, i < en_ z b sp (F + N - 1) - bg_ z b sp F → ρ' 16 (bg_ z b sp F + i) = sf_ z b L sp u F N i) ∧ (ρ' 20 (F + N - 1) = nI 45 → sf_ z b L sp u F N (en_ z b sp (F + N - 1) - bg_ z b sp F) = nI 45)) := by
          intro ρ' F N k e20 e16 hku v3 v4 r1 r2
          have v5 := mx_fit (z := z) (b := b) (lg := lg) hz1 hsp (show F ≤ u by omega) v3 v4
          have v6 := mx_le (z := z) (b := b) (sp := sp) (lg := lg) (show F ≤ u by omega)
          have hb := en_bound (b := b) (fun j hj => (hO.2 j hj).2.1) hM.2.2.2.1 hO.1 (show F + N - 1 < u by omega)
          have hbe : bg_ z b sp F ≤ en_ z b sp (F + N - 1) := Nat.le_trans (bg_mono (by omega)) (bg_le_en z b sp _)
          rw [e20]
          refine ⟨r1, r2, v3, by omega, hbe, by omega, rfl, by omega, fun i hi => ?_, fun hi => ?_⟩
          · have hee := en_mono (z := z) (b := b) (sp := sp) (show F + N - 1 ≤ u - 1 by omega)
            have := (w23 (bg_ z b sp F + i) (by rw [if_neg (by omega)]; omega)).1
            unfold sf_
            rw [if_pos (by unfold B_; exact hi), e16]
            exact this
          · unfold sf_
            rw [if_neg (by unfold B_; omega)]
        refine ⟨by omega, rfl, u, bg_ z b sp, en_ z b sp, hu, w21, fun k hk => ⟨(w24 k hk).1, (w24 k hk).2.1⟩, fun k hk => ?_⟩
        have hku := n3 k hk
        obtain ⟨v1, v2, -⟩ := ln_ok (S := sg_ z b L sp u) (sh := sh) (ph := ph) (inn := inn) (ct := ct) (rv := rv) (lk := lk) hfit k
        obtain ⟨v3, v4⟩ := v2 hku
        have v6 := mx_le (z := z) (b := b) (sp := sp) (lg := lg) v1
        exact line (upA (upA (up2 (up2 (upA (upA (up2 σ2 23 4 c1) 24 f24) 25 f25) 23 4 c2) 14 3 (nI nl)) 21 f21) 22 f22) _ _ k (w24 ((ln_ u z b (sg_ z b L sp u) lg sp sh ph inn ct rv lk k).1 + (ln_ u z b (sg_ z b L sp u) lg sp sh ph inn ct rv lk k).2 - 1) (by omega)).2.2 (fun _ => rfl) hku v3 v4 (hrow k hk).1 (hrow k hk).2
  · refine ⟨fun q => absurd rfl q, fun _ => ?_⟩
    obtain ⟨k0, hk0, hno⟩ := hno
    refine p_setNo hO hM hU hmm hk0 hno (fun g10 g11 f12 => ⟨rfl, ?_⟩)
    refine Rel_set h (fun _ _ => rfl) (fun c c1 c2 => ?_) (fun i hi => rfl) hO hC hU hMk ?_
    · unfold s3
      rw [upA_ne (by omega), upA_ne (by omega), upA_ne (by omega)]
    · exact hS
