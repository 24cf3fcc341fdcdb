/-! the reference's reading -/
def MR (τ : St) (u : Nat) (z : Nat → Nat) (b : Nat → Int32) (L : Nat → Nat → Int32) : Prop :=
  τ 0 9 = nI u ∧ ∀ k, k < u → τ 6 k = nI (z k) ∧ τ 8 k = b k ∧ ∀ i, i < z k → τ 7 (20 * k + i) = L k i
def FrM (τ τ' : St) (a p : Int32) : Prop := τ' 0 6 = nI 0 ∧ τ' 0 7 = a ∧ τ' 0 8 = p ∧ (∀ d, d ≠ 0 → d ≠ 6 → d ≠ 7 → d ≠ 8 → τ' d = τ d) ∧ ∀ i, i ≠ 6 → i ≠ 7 → i ≠ 8 → i ≠ 9 → τ' 0 i = τ 0 i
def FrN (τ τ' : St) : Prop := τ' 0 6 = nI 0 ∧ (∀ d, d ≠ 0 → d ≠ 6 → d ≠ 7 → d ≠ 8 → τ' d = τ d) ∧ ∀ i, i ≠ 6 → i ≠ 9 → τ' 0 i = τ 0 i
theorem FrN.fails {τ τ' : St} {a p : Int32} (h : FrN τ τ') : FrM τ (up2 (up2 τ' 0 7 a) 0 8 p) a p := by
  obtain ⟨h1, h2, h3⟩ := h
  refine ⟨h1, rfl, rfl, fun d d0 d6 d7 d8 => by rw [up2_ne d0, up2_ne d0, h2 d d0 d6 d7 d8], fun i i6 i7 i8 i9 => ?_⟩
  show upd (upd (τ' 0) 7 a) 8 p i = _
  rw [upd_ne i8, upd_ne i7, h3 i i6 i9]
theorem e_isEnd {σ : St} {x : Int32} {Q : Int32 → St → Prop} : wp_X11_isEnd σ x Q = (((x = nI 44 ∨ x = nI 46 ∨ x = nI 47) → Q (nI 1) σ) ∧ (¬ (x = nI 44 ∨ x = nI 46 ∨ x = nI 47) → Q (nI 0) σ)) := by
  unfold wp_X11_isEnd
  by_cases h1 : x = nI 44 <;> by_cases h2 : x = nI 46 <;> by_cases h3 : x = nI 47 <;> simp [h1, h2, h3]
theorem e_isBlank {σ : St} {x : Int32} {Q : Int32 → St → Prop} : wp_X11_isBlank σ x Q = (((x = nI 10 ∨ x = nI 32) → Q (nI 1) σ) ∧ (¬ (x = nI 10 ∨ x = nI 32) → Q (nI 0) σ)) := by
  unfold wp_X11_isBlank
  by_cases h1 : x = nI 10 <;> by_cases h2 : x = nI 32 <;> simp [h1, h2]
theorem MR_close {τ : St} {u : Nat} {z : Nat → Nat} {b : Nat → Int32} {L : Nat → Nat → Int32} {c : Int32} (hC : MR τ u z b L) : MR (up2 τ 8 (u - 1) c) u z (upd b (u - 1) c) L := by
  refine ⟨hC.1, fun k hk => ?_⟩
  obtain ⟨q1, q2, q3⟩ := hC.2 k hk
  refine ⟨q1, ?_, q3⟩
  show upd (τ 8) (u - 1) c k = upd b (u - 1) c k
  by_cases h : k = u - 1
  · subst h; rw [upd_same, upd_same]
  · rw [upd_ne h, upd_ne h, q2]
theorem MR_open {τ : St} {u : Nat} {z : Nat → Nat} {b : Nat → Int32} {L : Nat → Nat → Int32} (hC : MR τ u z b L) : MR (up2 (up2 (up2 τ 6 u (nI 0)) 8 u (nI 32)) 0 9 (nI (u + 1))) (u + 1) (zup z u 0) (upd b u (nI 32)) L := by
  refine ⟨rfl, fun k hk => ?_⟩
  show upd (τ 6) u (nI 0) k = _ ∧ upd (τ 8) u (nI 32) k = _ ∧ _
  by_cases h : k = u
  · subst h
    refine ⟨by rw [upd_same]; simp [zup], by rw [upd_same, upd_same], fun i hi => ?_⟩
    simp [zup] at hi
  · obtain ⟨r1, r2, r3⟩ := hC.2 k (by omega)
    refine ⟨by rw [upd_ne h, r1]; simp [zup, h], by rw [upd_ne h, upd_ne h, r2], fun i hi => ?_⟩
    simp only [zup, h, if_false] at hi
    exact r3 i hi
theorem MR_add {τ : St} {u : Nat} {z : Nat → Nat} {b : Nat → Int32} {L : Nat → Nat → Int32} {c : Int32} (hu : 0 < u) (hz : ∀ k, k < u → z k ≤ 20) (hC : MR τ u z b L) : MR (up2 (up2 τ 7 (20 * (u - 1) + z (u - 1)) c) 6 (u - 1) (nI (z (u - 1) + 1))) u (zup z (u - 1) (z (u - 1) + 1)) b (Lup L (u - 1) (z (u - 1)) c) := by
  refine ⟨hC.1, fun k hk => ?_⟩
  obtain ⟨r1, r2, r3⟩ := hC.2 k hk
  have hzk := hz k hk
  have hzu := hz (u - 1) (by omega)
  refine ⟨?_, r2, fun i hi => ?_⟩
  · show upd (τ 6) (u - 1) (nI (z (u - 1) + 1)) k = _
    by_cases h : k = u - 1
    · subst h; rw [upd_same]; simp [zup]
    · rw [upd_ne h, r1]; simp [zup, h]
  · show upd (τ 7) (20 * (u - 1) + z (u - 1)) c (20 * k + i) = _
    by_cases h : k = u - 1
    · subst h
      simp only [zup, if_true] at hi
      by_cases hi2 : i = z (u - 1)
      · subst hi2
        rw [upd_same]; simp [Lup]
      · rw [upd_ne (by omega), r3 i (by omega)]; simp [Lup, hi2]
    · simp only [zup, h, if_false] at hi
      rw [upd_ne (by omega), r3 i hi]; simp [Lup, h]
theorem p_isText {τ : St} {n : Nat} {Q : Int32 → St → Prop} (hn : n ≤ 600) (h1 : τ 0 6 = nI n)
    (hok : ∀ (st u : Nat) (z : Nat → Nat) (b : Nat → Int32) (L : Nat → Nat → Int32) (τ' : St), fin_ (τ 5) n = .inl (st, u, z, b, L) → MR τ' u z b L → OkT u z b L → FrM τ τ' (nI 0) (-1) → Q (nI 1) τ')
    (hbad : ∀ (k p : Nat) (τ' : St), fin_ (τ 5) n = .inr (k, p) → FrM τ τ' (nI k) (nI p) → Q (nI 0) τ') : wp_X11_isText τ Q := by
  have stop : ∀ i k, i < n → prs (τ 5) (i + 1) = .inr (k, i) → fin_ (τ 5) n = .inr (k, i) := by
    intro i k hi hp
    have pe : ∀ m, prs (τ 5) (i + 1 + m) = .inr (k, i) := by
      intro m
      induction m with
      | zero => exact hp
      | succ m ihm => rw [← Nat.add_assoc]; simp only [prs, ihm]
    have := pe (n - (i + 1))
    rw [show i + 1 + (n - (i + 1)) = n by omega] at this
    simp [fin_, this]
  have key : ∀ d i (τ' : St) (st u : Nat) (z : Nat → Nat) (b : Nat → Int32) (L : Nat → Nat → Int32), i + d = n → prs (τ 5) i = .inl (st, u, z, b, L) → MR τ' u z b L → FrN τ τ' → wpl_X11_isText_19 (nI n) Q (d + 1) τ' (nI st) (nI i) := by
    intro d
    induction d with
    | zero =>
      intro i τ' st u z b L hi hp hC hfr
      obtain rfl : i = n := by omega
      obtain ⟨p1, p2, p3⟩ := prs_inv hp
      have e2 : nI st = nI 2 ↔ st = 2 := nI_eq (by omega) (by decide)
      unfold wpl_X11_isText_19
      simp only [wp_X11_fails, e2, show nI i ≤ nI i from Int32.le_refl _, not_true_eq_false, not_false_eq_true, true_implies, false_implies, true_and, and_true, true_or]
      refine ⟨fun q => ?_, fun q => ?_⟩
      · exact hok st u z b L _ (by simp [fin_, hp, q]) hC p3 hfr.fails
      · exact hbad 1 i _ (by simp [fin_, hp, q]) hfr.fails
    | succ d ih =>
      intro i τ' st u z b L hi hp hC hfr
      obtain ⟨p1, p2, p3, p4⟩ := id (prs_inv hp)
      have h5 : τ' 5 = τ 5 := hfr.2.1 5 (by decide) (by decide) (by decide) (by decide)
      have e3 : nI st = nI 3 ↔ st = 3 := nI_eq (by omega) (by decide)
      have e2 : nI st = nI 2 ↔ st = 2 := nI_eq (by omega) (by decide)
      have e1 : nI st = nI 1 ↔ st = 1 := nI_eq (by omega) (by decide)
      have c1 : ¬ nI n ≤ nI i := by simp (disch := omega) only [nI_add, nI_eq, nI_leI, nI_ltI, pk_sub, pk_mul, nI_clamp, nI_eqm1, nI_lt0, vp_in_iffN]; omega
      have c3 : vp_in (nI i) 600 := by simp (disch := omega) only [nI_add, nI_eq, nI_leI, nI_ltI, pk_sub, pk_mul, nI_clamp, nI_eqm1, nI_lt0, vp_in_iffN]; omega
      have fail : ∀ k, pstep st u z b L (τ 5 i) = .inr k → Q (nI 0) (up2 (up2 τ' 0 7 (nI k)) 0 8 (nI i)) := fun k hk => hbad k i _ (stop i k (by omega) (by simp [prs, hp, hk])) hfr.fails
      have goes : ∀ (st' u' : Nat) (z' : Nat → Nat) (b' : Nat → Int32) (L' : Nat → Nat → Int32) (τ'' : St), pstep st u z b L (τ 5 i) = .inl (st', u', z', b', L') → MR τ'' u' z' b' L' → FrN τ τ'' → wpl_X11_isText_19 (nI n) Q (d + 1) τ'' (nI st') (nI (i + 1)) := fun st' u' z' b' L' τ'' hs hC' hf' => ih (i + 1) τ'' st' u' z' b' L' (by omega) (by simp [prs, hp, hs]) hC' hf'
      unfold wpl_X11_isText_19
      simp only [c1, c3, nI_clamp (show i < 2 ^ 31 by omega), h5, e_isLetM, not_true_eq_false, not_false_eq_true, true_implies, false_implies, true_and, and_true, nI10, nI_add, hC.1, e1, e2, e3]
      generalize hc : τ 5 i = c at fail goes ⊢
      refine ⟨fun hl => ?_, fun hl => ?_⟩
      · -- no letter
        simp only [e_isEnd, e_isBlank, wp_X11_fails, nI10, not_true_eq_false, not_false_eq_true, true_implies, false_implies, true_and, and_true, true_or]
        have cls : ∀ s', st = 1 → pstep st u z b L c = .inl (s', u, z, upd b (u - 1) c, L) → (vp_in (nI u - nI 1) 80 ∧ wpl_X11_isText_19 (nI n) Q (d + 1) (up2 τ' 8 (nI u - nI 1).toNatClampNeg c) (nI s') (nI (i + 1))) := by
          intro s' q1 hs
          have hu := p2 q1
          rw [pk_sub hu, nI_clamp (show u - 1 < 2 ^ 31 by omega)]
          refine ⟨by simp (disch := omega) only [nI_add, nI_eq, nI_leI, nI_ltI, pk_sub, pk_mul, nI_clamp, nI_eqm1, nI_lt0, vp_in_iffN]; omega, goes s' u z _ L _ hs (MR_close hC) ⟨hfr.1, fun d d0 d6 d7 d8 => by rw [up2_ne d8, hfr.2.1 d d0 d6 d7 d8], hfr.2.2⟩⟩
        by_cases c45 : c = nI 45
        · subst c45
          simp only [not_true_eq_false, true_implies, false_implies, true_and, and_true]
          refine ⟨fun q1 => ?_, fun q1 => ?_⟩
          · exact cls 2 q1 (by simp [pstep, hl, q1])
          · exact fail 1 (by simp [pstep, hl, q1])
        · by_cases ce : c = nI 44 ∨ c = nI 46 ∨ c = nI 47
          · simp only [c45, ce, hC.1, not_true_eq_false, not_false_eq_true, true_implies, false_implies, true_and, and_true]
            refine ⟨fun q1 => ?_, fun q1 => ?_⟩
            · exact cls 3 q1 (by simp [pstep, hl, c45, ce, q1])
            · exact fail 1 (by simp [pstep, hl, c45, ce, q1])
          · by_cases cb : c = nI 10 ∨ c = nI 32
            · simp only [c45, ce, cb, not_true_eq_false, not_false_eq_true, true_implies, false_implies, true_and, and_true]
              refine ⟨fun q2 => ?_, fun q2 => ?_⟩
              · exact goes 0 u z b L _ (by simp [pstep, hl, c45, ce, cb, q2]) hC hfr
              · exact fail 1 (by simp [pstep, hl, c45, ce, q2])
            · simp only [c45, ce, cb, not_true_eq_false, not_false_eq_true, true_implies, false_implies, true_and, and_true]
              exact fail 1 (by simp [pstep, hl, c45, ce, cb])
      · -- a letter
        simp only [wp_X11_fails, not_true_eq_false, not_false_eq_true, true_implies, false_implies, true_and, and_true, true_or]
        refine ⟨fun q3 => ⟨fun q1 => ?_, fun q1 => ⟨fun q80 => ?_, fun q80 => ?_⟩⟩, fun q3 => ?_⟩
        · have hu := p2 q1
          obtain ⟨r1, r2, r3⟩ := hC.2 (u - 1) (by omega)
          obtain ⟨z1, z2, z3, z4⟩ := p4 (u - 1) (by omega)
          have c2 : vp_in (nI (u - 1)) 80 := by simp (disch := omega) only [nI_add, nI_eq, nI_leI, nI_ltI, pk_sub, pk_mul, nI_clamp, nI_eqm1, nI_lt0, vp_in_iffN]; omega
          have c20 : nI (z (u - 1)) = nI 20 ↔ z (u - 1) = 20 := nI_eq (by omega) (by decide)
          unfold wpj_X11_isText_104
          simp only [hC.1, pk_sub hu, c2, nI_clamp (show u - 1 < 2 ^ 31 by omega), r1, c20, pk_mul, nI_add, wp_X11_fails, not_true_eq_false, not_false_eq_true, true_implies, false_implies, true_and, and_true, true_or]
          refine ⟨fun q => ⟨by simp (disch := omega) only [nI_add, nI_eq, nI_leI, nI_ltI, pk_sub, pk_mul, nI_clamp, nI_eqm1, nI_lt0, vp_in_iffN]; omega, ?_⟩, fun q => ?_⟩
          · rw [nI_clamp (show 20 * (u - 1) + z (u - 1) < 2 ^ 31 by omega)]
            refine goes 1 u _ b _ _ (by simp [pstep, hl, q3, q1, q]) (MR_add hu (fun k hk => (p4 k hk).2.1) hC) ⟨hfr.1, fun d d0 d6 d7 d8 => by rw [up2_ne d6, up2_ne d7, hfr.2.1 d d0 d6 d7 d8], hfr.2.2⟩
          · exact fail 2 (by simp [pstep, hl, q3, q1, q])
        · have hu80 : u ≠ 80 := fun e => q80 (by rw [e])
          have c2 : vp_in (nI u) 80 := by simp (disch := omega) only [nI_add, nI_eq, nI_leI, nI_ltI, pk_sub, pk_mul, nI_clamp, nI_eqm1, nI_lt0, vp_in_iffN]; omega
          refine ⟨c2, ?_⟩
          rw [nI_clamp (show u < 2 ^ 31 by omega)]
          have hO := MR_open hC
          obtain ⟨r1, r2, r3⟩ := hO.2 u (by omega)
          have c3 : vp_in (nI (u + 1 - 1)) 80 := by simp (disch := omega) only [nI_add, nI_eq, nI_leI, nI_ltI, pk_sub, pk_mul, nI_clamp, nI_eqm1, nI_lt0, vp_in_iffN]; omega
          generalize hρ : up2 (up2 (up2 τ' 6 u (nI 0)) 8 u (nI 32)) 0 9 (nI (u + 1)) = ρ at hO r1 r2 r3 ⊢
          have hfρ : FrN τ ρ := by
            subst hρ
            refine ⟨hfr.1, fun d d0 d6 d7 d8 => by rw [up2_ne d0, up2_ne d8, up2_ne d6, hfr.2.1 d d0 d6 d7 d8], fun j j6 j9 => ?_⟩
            show upd (τ' 0) 9 _ j = _
            rw [upd_ne j9, hfr.2.2 j j6 j9]
          have hz0 : zup z u 0 u = 0 := by simp [zup]
          rw [hz0] at r1
          unfold wpj_X11_isText_104
          simp only [hO.1, pk_sub (show 1 ≤ u + 1 by omega), Nat.add_sub_cancel, c2, nI_clamp (show u < 2 ^ 31 by omega), r1, show ¬ nI 0 = nI 20 by decide, pk_mul, nI_add, not_true_eq_false, not_false_eq_true, true_implies, false_implies, true_and, and_true]
          refine ⟨by simp (disch := omega) only [nI_add, nI_eq, nI_leI, nI_ltI, pk_sub, pk_mul, nI_clamp, nI_eqm1, nI_lt0, vp_in_iffN]; omega, ?_⟩
          rw [nI_clamp (show 20 * u + 0 < 2 ^ 31 by omega)]
          have hA := MR_add (c := c) (show 0 < u + 1 by omega) (fun k hk => by
            by_cases hk2 : k = u
            · subst hk2; simp [zup]
            · simp only [zup, hk2, if_false]; exact (p4 k (by omega)).2.1) hO
          rw [Nat.add_sub_cancel, hz0] at hA
          have ez : zup (zup z u 0) u (0 + 1) = zup z u 1 := by
            funext j
            by_cases hj : j = u <;> simp [zup, hj]
          rw [ez] at hA
          exact goes 1 (u + 1) _ _ _ _ (by simp [pstep, hl, q3, q1, hu80]) hA ⟨hfρ.1, fun d d0 d6 d7 d8 => by rw [up2_ne d6, up2_ne d7, hfρ.2.1 d d0 d6 d7 d8], hfρ.2.2⟩
        · have hu80 : u = 80 := nI_inj (by omega) (by decide) q80
          exact fail 3 (by simp [pstep, hl, q3, q1, hu80])
        · exact fail 1 (by simp [pstep, hl, q3])
  unfold wp_X11_isText
  rw [h1]
  refine ⟨n + 1, ?_⟩
  exact key n 0 _ 0 0 (fun _ => 0) (fun _ => nI 32) (fun _ _ => nI 0) (by omega) rfl ⟨rfl, fun k hk => by omega⟩ ⟨rfl, fun d d0 d6 d7 d8 => by rw [up2_ne d0, up2_ne d0], fun j j6 j9 => by
    show upd (upd (τ 0) 6 _) 9 _ j = _
    rw [upd_ne j9, upd_ne j6]⟩
