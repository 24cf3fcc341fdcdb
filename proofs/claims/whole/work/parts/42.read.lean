theorem nIc {a b : Nat} (ha : a < 2 ^ 31) (hb : b < 2 ^ 31) (h : a ≠ b) : ¬ nI a = nI b := fun e => h (nI_inj ha hb e)
theorem p_sbl {σ : St} {st u : Nat} {z : Nat → Nat} {b : Nat → Int32} {L : Nat → Nat → Int32} {c y : Int32} {Q : Int32 → St → Prop} (hI : PInv st u z b L) (hC : CR σ u z b L) (hc : ¬ (c < nI 97 ∨ nI 122 < c))
    (hok : ∀ (st' u' : Nat) (z' : Nat → Nat) (b' : Nat → Int32) (L' : Nat → Nat → Int32) (σ' : St), pstep st u z b L c = .inl (st', u', z', b', L') → CR σ' u' z' b' L' → (∀ d, d ≠ 4 → d ≠ 5 → d ≠ 6 → d ≠ 7 → σ' d = σ d) → Q (nI st') σ')
    (hbad : ∀ (k : Nat) (r : Int32) (σ' : St), pstep st u z b L c = .inr k → σ' 3 1 = nI k → σ' 3 2 = y → (∀ d, d ≠ 3 → d ≠ 4 → d ≠ 5 → d ≠ 6 → d ≠ 7 → σ' d = σ d) → Q r σ') : wp_X3_stateBehindLetter σ (nI st) c y Q := by
  obtain ⟨h1, h2, h3, h4⟩ := hI
  have e3 : nI st = nI 3 ↔ st = 3 := nI_eq (by omega) (by decide)
  have e1 : nI st = nI 1 ↔ st = 1 := nI_eq (by omega) (by decide)
  unfold wp_X3_stateBehindLetter wp_X3_refuse
  rw [e3, e1]
  refine ⟨fun q3 => ⟨fun q1 => ?_, fun q1 => ?_⟩, fun q3 => ?_⟩
  · have hu := h2 q1
    refine p_addLetter hu h3 (fun k hk => (h4 k hk).2.1) hC (fun h20 => ?_) (fun σ' hl hC' hfr => ?_)
    · simp only [not_true_eq_false, true_implies, false_implies, true_and]
      refine hbad 2 _ _ (by simp [pstep, hc, q3, q1, h20]) rfl rfl (fun d d3 d4 d5 d6 d7 => ?_)
      rw [up2_ne d3, up2_ne d3]
    · simp only [nI10, not_false_eq_true, true_implies, false_implies, and_true]
      refine hok 1 u _ _ _ _ (by simp [pstep, hc, q3, q1, show ¬ z (u - 1) = 20 by omega]) hC' (fun d d4 d5 d6 d7 => hfr d d5 d6)
  · refine p_open h3 hC (fun h80 => ?_) (fun σ' hl hC' hfr => ?_)
    · simp only [not_true_eq_false, true_implies, false_implies, true_and]
      refine hbad 3 _ _ (by simp [pstep, hc, q3, q1, h80]) rfl rfl (fun d d3 d4 d5 d6 d7 => ?_)
      rw [up2_ne d3, up2_ne d3]
    · simp only [nI10, not_false_eq_true, true_implies, false_implies, and_true]
      refine p_addLetter (by omega) (by omega) (fun k hk => ?_) hC' (fun h20 => ?_) (fun σ'' hl2 hC'' hfr2 => ?_)
      · by_cases hk2 : k = u
        · subst hk2; simp [zup]
        · simp only [zup, hk2, if_false]; exact (h4 k (by omega)).2.1
      · simp [zup] at h20
      · simp only [nI10, not_false_eq_true, true_implies, false_implies, and_true]
        have ez : zup (zup z u 0) (u + 1 - 1) ((zup z u 0) (u + 1 - 1) + 1) = zup z u 1 := by
          funext j
          by_cases hj : j = u <;> simp [zup, hj]
        have eL : Lup L (u + 1 - 1) ((zup z u 0) (u + 1 - 1)) c = Lup L u 0 c := by simp [zup]
        rw [ez, eL] at hC''
        exact hok 1 (u + 1) _ _ _ _ (by simp [pstep, hc, q3, q1, show ¬ u = 80 by omega]) hC'' (fun d d4 d5 d6 d7 => by rw [hfr2 d d5 d6, hfr d d4 d6 d7])
  · refine hbad 1 _ _ (by simp [pstep, hc, q3]) rfl rfl (fun d d3 d4 d5 d6 d7 => ?_)
    rw [up2_ne d3, up2_ne d3]
theorem p_sb {σ : St} {st u : Nat} {z : Nat → Nat} {b : Nat → Int32} {L : Nat → Nat → Int32} {c y : Int32} {Q : Int32 → St → Prop} (hI : PInv st u z b L) (hC : CR σ u z b L)
    (hok : ∀ (st' u' : Nat) (z' : Nat → Nat) (b' : Nat → Int32) (L' : Nat → Nat → Int32) (σ' : St), pstep st u z b L c = .inl (st', u', z', b', L') → CR σ' u' z' b' L' → (∀ d, d ≠ 4 → d ≠ 5 → d ≠ 6 → d ≠ 7 → σ' d = σ d) → Q (nI st') σ')
    (hbad : ∀ (k : Nat) (r : Int32) (σ' : St), pstep st u z b L c = .inr k → σ' 3 1 = nI k → σ' 3 2 = y → (∀ d, d ≠ 3 → d ≠ 4 → d ≠ 5 → d ≠ 6 → d ≠ 7 → σ' d = σ d) → Q r σ') : wp_X3_stateBehind σ (nI st) c y Q := by
  obtain ⟨h1, h2, h3, h4⟩ := id hI
  have e2 : nI st = nI 2 ↔ st = 2 := nI_eq (by omega) (by decide)
  have e1 : nI st = nI 1 ↔ st = 1 := nI_eq (by omega) (by decide)
  unfold wp_X3_stateBehind
  rw [e_isLetC]
  refine ⟨fun hc => ?_, fun hc => ?_⟩
  · simp only [not_true_eq_false, true_implies, false_implies, and_true]
    -- a refusal, and a close
    have ref : pstep st u z b L c = .inr 1 → ∀ r, Q r (up2 (up2 σ 3 1 (nI 1)) 3 2 y) := fun hp r => hbad 1 r _ hp rfl rfl (fun d d3 d4 d5 d6 d7 => by rw [up2_ne d3, up2_ne d3])
    have cl : ∀ s', st = 1 → pstep st u z b L c = .inl (s', u, z, upd b (u - 1) c, L) → wp_X9_close σ c (fun σ' => Q (nI s') σ') := fun s' q1 hp => p_close (h2 q1) h3 hC (fun hC' => hok s' u z _ L _ hp hC' (fun d d4 d5 d6 d7 => by rw [up2_ne d7]))
    by_cases c32 : c = nI 32
    · subst c32
      simp only [wpj_X3_stateBehind_27, e1, e2, show ¬ nI 32 = nI 44 by decide, show ¬ nI 32 = nI 46 by decide, show ¬ nI 32 = nI 47 by decide, show ¬ nI 32 = nI 45 by decide, not_true_eq_false, not_false_eq_true, true_implies, false_implies, true_and, and_true, wp_X3_refuse]
      refine ⟨fun q2 => ⟨fun q1 => ref ?_ _, fun q1 => ref ?_ _⟩, fun q2 => ?_⟩
      · simp [pstep, show (nI 32 < nI 97 ∨ nI 122 < nI 32) by decide, q2, show ¬ nI 32 = nI 44 by decide, show ¬ nI 32 = nI 46 by decide, show ¬ nI 32 = nI 47 by decide, show ¬ nI 32 = nI 45 by decide]
      · omega
      · exact hok 0 u z b L σ (by simp [pstep, show (nI 32 < nI 97 ∨ nI 122 < nI 32) by decide, q2, show ¬ nI 32 = nI 44 by decide, show ¬ nI 32 = nI 46 by decide, show ¬ nI 32 = nI 47 by decide, show ¬ nI 32 = nI 45 by decide]) hC (fun _ _ _ _ _ => rfl)
    · by_cases c10 : c = nI 10
      · subst c10
        simp only [wpj_X3_stateBehind_27, e1, e2, c32, show ¬ nI 10 = nI 44 by decide, show ¬ nI 10 = nI 46 by decide, show ¬ nI 10 = nI 47 by decide, show ¬ nI 10 = nI 45 by decide, not_true_eq_false, not_false_eq_true, true_implies, false_implies, true_and, and_true, wp_X3_refuse]
        refine ⟨fun q2 => ⟨fun q1 => ref ?_ _, fun q1 => ref ?_ _⟩, fun q2 => ?_⟩
        · simp [pstep, show (nI 10 < nI 97 ∨ nI 122 < nI 10) by decide, q2, show ¬ nI 10 = nI 44 by decide, show ¬ nI 10 = nI 46 by decide, show ¬ nI 10 = nI 47 by decide, show ¬ nI 10 = nI 45 by decide]
        · omega
        · exact hok 0 u z b L σ (by simp [pstep, show (nI 10 < nI 97 ∨ nI 122 < nI 10) by decide, q2, show ¬ nI 10 = nI 44 by decide, show ¬ nI 10 = nI 46 by decide, show ¬ nI 10 = nI 47 by decide, show ¬ nI 10 = nI 45 by decide]) hC (fun _ _ _ _ _ => rfl)
      · by_cases c44 : c = nI 44
        · subst c44
          simp only [wpj_X3_stateBehind_64, e1, c32, c10, not_true_eq_false, not_false_eq_true, true_implies, false_implies, true_and, and_true, wp_X3_refuse]
          refine ⟨fun q1 => ref ?_ _, fun q1 => cl 3 q1 ?_⟩ <;> simp [pstep, show (nI 44 < nI 97 ∨ nI 122 < nI 44) by decide, q1, show ¬ nI 44 = nI 45 by decide]
        · by_cases c46 : c = nI 46
          · subst c46
            simp only [wpj_X3_stateBehind_64, e1, c32, c10, c44, not_true_eq_false, not_false_eq_true, true_implies, false_implies, true_and, and_true, wp_X3_refuse]
            refine ⟨fun q1 => ref ?_ _, fun q1 => cl 3 q1 ?_⟩ <;> simp [pstep, show (nI 46 < nI 97 ∨ nI 122 < nI 46) by decide, q1, show ¬ nI 46 = nI 45 by decide]
          · by_cases c47 : c = nI 47
            · subst c47
              simp only [wpj_X3_stateBehind_64, e1, c32, c10, c44, c46, not_true_eq_false, not_false_eq_true, true_implies, false_implies, true_and, and_true, wp_X3_refuse]
              refine ⟨fun q1 => ref ?_ _, fun q1 => cl 3 q1 ?_⟩ <;> simp [pstep, show (nI 47 < nI 97 ∨ nI 122 < nI 47) by decide, q1, show ¬ nI 47 = nI 45 by decide]
            · simp only [e1, c32, c10, c44, c46, c47, not_true_eq_false, not_false_eq_true, true_implies, false_implies, true_and, and_true, wp_X3_refuse]
              refine ⟨fun q1 => ref ?_ _, fun q1 => ⟨fun c45 => ref ?_ _, fun c45 => cl 2 q1 ?_⟩⟩
              · simp [pstep, hc, c32, c10, c44, c46, c47, q1]
              · simp [pstep, hc, c32, c10, c44, c46, c47, c45]
              · simp [pstep, hc, c45, q1, show (nI 45 < nI 97 ∨ nI 122 < nI 45) by decide]
  · simp only [nI10, not_false_eq_true, true_implies, false_implies, true_and]
    exact p_sbl hI hC hc hok hbad
theorem fr5 {σ σ' : St} (h : ∀ c, c ≠ 3 → c ≠ 4 → c ≠ 5 → c ≠ 6 → c ≠ 7 → σ' c = σ c) : σ' = upA (upA (upA (upA (upA σ 3 (σ' 3)) 4 (σ' 4)) 5 (σ' 5)) 6 (σ' 6)) 7 (σ' 7) := by
  funext c
  by_cases h7 : c = 7
  · subst h7; rw [upA_same]
  · rw [upA_ne h7]
    by_cases h6 : c = 6
    · subst h6; rw [upA_same]
    · rw [upA_ne h6]
      by_cases h5 : c = 5
      · subst h5; rw [upA_same]
      · rw [upA_ne h5]
        by_cases h4 : c = 4
        · subst h4; rw [upA_same]
        · rw [upA_ne h4]
          by_cases h3 : c = 3
          · subst h3; rw [upA_same]
          · rw [upA_ne h3, h c h3 h4 h5 h6 h7]
theorem p_read {σ : St} {n : Nat} {Q : St → Prop} (hn : n ≤ 600) (h1 : σ 1 1 = nI n)
    (hok : ∀ (st u : Nat) (z : Nat → Nat) (b : Nat → Int32) (L : Nat → Nat → Int32) (σ' : St), fin_ (σ 2) n = .inl (st, u, z, b, L) → CR σ' u z b L → OkT u z b L → σ' 3 1 = nI 0 → σ' 3 2 = -1 → (∀ d, d ≠ 3 → d ≠ 4 → d ≠ 5 → d ≠ 6 → d ≠ 7 → σ' d = σ d) → Q σ')
    (hbad : ∀ (k p : Nat) (σ' : St), fin_ (σ 2) n = .inr (k, p) → 1 ≤ k → k ≤ 3 → σ' 3 1 = nI k → σ' 3 2 = nI p → (∀ d, d ≠ 3 → d ≠ 4 → d ≠ 5 → d ≠ 6 → d ≠ 7 → σ' d = σ d) → Q σ') : wp_X3_read_1 σ Q := by
  have key : ∀ d i (σ' : St) (st u : Nat) (z : Nat → Nat) (b : Nat → Int32) (L : Nat → Nat → Int32), i + d = n → prs (σ 2) i = .inl (st, u, z, b, L) → CR σ' u z b L → σ' 3 1 = nI 0 → σ' 3 2 = -1 → (∀ d, d ≠ 3 → d ≠ 4 → d ≠ 5 → d ≠ 6 → d ≠ 7 → σ' d = σ d) → wpl_X3_read_1_21 Q (d + 1) σ' (nI st) (nI i) := by
    intro d
    induction d with
    | zero =>
      intro i σ' st u z b L hi hp hC a1 a2 hfr
      obtain rfl : i = n := by omega
      obtain ⟨p1, p2, p3⟩ := prs_inv hp
      have e2 : nI st = nI 2 ↔ st = 2 := nI_eq (by omega) (by decide)
      have hl : σ' 1 1 = nI i := by rw [hfr 1 (by decide) (by decide) (by decide) (by decide) (by decide)]; exact h1
      unfold wpl_X3_read_1_21
      simp only [wp_X7_length, wp_X3_refuse, hl, a1, e2, show nI i ≤ nI i from Int32.le_refl _, not_true_eq_false, not_false_eq_true, true_implies, false_implies, true_and, and_true]
      refine ⟨fun q => ?_, fun q => ?_⟩
      · exact hok st u z b L σ' (by simp [fin_, hp, q]) hC p3 a1 a2 hfr
      · exact hbad 1 i _ (by simp [fin_, hp, q]) (by omega) (by omega) rfl rfl (fun d d3 d4 d5 d6 d7 => by rw [up2_ne d3, up2_ne d3, hfr d d3 d4 d5 d6 d7])
    | succ d ih =>
      intro i σ' st u z b L hi hp hC a1 a2 hfr
      have hl : σ' 1 1 = nI n := by rw [hfr 1 (by decide) (by decide) (by decide) (by decide) (by decide)]; exact h1
      have h2 : σ' 2 = σ 2 := hfr 2 (by decide) (by decide) (by decide) (by decide) (by decide)
      have c1 : ¬ nI n ≤ nI i := by simp (disch := omega) only [nI_add, nI_eq, nI_leI, nI_ltI, pk_sub, pk_mul, nI_clamp, nI_eqm1, nI_lt0, vp_in_iffN]; omega
      have c2 : ¬ nI i < nI 0 := by simp (disch := omega) only [nI_add, nI_eq, nI_leI, nI_ltI, pk_sub, pk_mul, nI_clamp, nI_eqm1, nI_lt0, vp_in_iffN]; omega
      have c3 : vp_in (nI i) 600 := by simp (disch := omega) only [nI_add, nI_eq, nI_leI, nI_ltI, pk_sub, pk_mul, nI_clamp, nI_eqm1, nI_lt0, vp_in_iffN]; omega
      unfold wpl_X3_read_1_21
      simp only [wp_X7_length, wp_X7_byteAt, wp_X3_refuse, hl, a1, c1, c2, c3, nI_clamp (show i < 2 ^ 31 by omega), not_true_eq_false, not_false_eq_true, true_implies, false_implies, true_and, and_true, h2]
      refine p_sb (prs_inv hp) hC (fun st' u' z' b' L' σ'' hs hC' hfr' => ?_) (fun k r σ'' hs b1 b2 hfr' => ?_)
      · rw [nI_add]
        refine ih (i + 1) σ'' st' u' z' b' L' (by omega) (by simp [prs, hp, hs]) hC' ?_ ?_ (fun d d3 d4 d5 d6 d7 => by rw [hfr' d d4 d5 d6 d7, hfr d d3 d4 d5 d6 d7])
        · rw [hfr' 3 (by decide) (by decide) (by decide) (by decide)]; exact a1
        · rw [hfr' 3 (by decide) (by decide) (by decide) (by decide)]; exact a2
      · have hk := pstep_kind hs
        have hk0 : ¬ nI k = nI 0 := nIc (by omega) (by decide) (by omega)
        have pe : ∀ m, prs (σ 2) (i + 1 + m) = .inr (k, i) := by
          intro m
          induction m with
          | zero => simp [prs, hp, hs]
          | succ m ihm => rw [← Nat.add_assoc]; simp only [prs, ihm]
        have pf : fin_ (σ 2) n = .inr (k, i) := by
          have := pe (n - (i + 1))
          rw [show i + 1 + (n - (i + 1)) = n by omega] at this
          simp [fin_, this]
        have fr' : ∀ d, d ≠ 3 → d ≠ 4 → d ≠ 5 → d ≠ 6 → d ≠ 7 → σ'' d = σ d := fun d d3 d4 d5 d6 d7 => by rw [hfr' d d3 d4 d5 d6 d7, hfr d d3 d4 d5 d6 d7]
        have hl2 : σ'' 1 1 = nI n := by rw [fr' 1 (by decide) (by decide) (by decide) (by decide) (by decide)]; exact h1
        have hq : Q σ'' := hbad k i σ'' pf (by omega) (by omega) b1 b2 fr'
        unfold wpl_X3_read_1_21
        simp only [wp_X7_length, b1, hk0, not_true_eq_false, not_false_eq_true, true_implies, false_implies, true_and, and_true]
        exact ⟨fun _ => hq, fun _ => hq⟩
  unfold wp_X3_read_1 wp_X9_clear
  refine ⟨n + 1, ?_⟩
  exact key n 0 _ 0 0 (fun _ => 0) (fun _ => nI 32) (fun _ _ => nI 0) (by omega) rfl ⟨rfl, fun k hk => by omega⟩ rfl rfl (fun d d3 d4 d5 d6 d7 => by rw [up2_ne d3, up2_ne d3, up2_ne d4])
