theorem HU.otherG {f2 f1 f3 g : Nat → Int32} {j zz p : Nat} {bb v w : Int32} {LL : Nat → Int32} (h : HU f2 f1 f3 j zz bb LL) (hz : zz ≤ 20) (hj : j ≠ p) (ho : ∀ q, (q < 20 * p ∨ 20 * p + 20 ≤ q) → g q = f2 q) : HU g (upd f1 p v) (upd f3 p w) j zz bb LL := by
  obtain ⟨h1, h2, h3⟩ := h
  exact ⟨by rw [upd_ne hj, h1], by rw [upd_ne hj, h2], fun i hi => by rw [ho _ (by omega)]; exact h3 i hi⟩
theorem st3M {τ : St} {f1 f2 f3 g2 : Nat → Int32} {p : Nat} {v w : Int32} : upA (up2 (up2 (upA (upA (upA τ 1 f1) 2 f2) 3 f3) 1 p v) 3 p w) 2 g2 = upA (upA (upA τ 1 (upd f1 p v)) 2 g2) 3 (upd f3 p w) := by
  funext c
  by_cases h3 : c = 3
  · subst h3; rfl
  · by_cases h2 : c = 2
    · subst h2; rfl
    · by_cases h1 : c = 1
      · subst h1; rfl
      · simp only [up2_ne h3, up2_ne h1, upA_ne h3, upA_ne h2, upA_ne h1]
theorem st3M' {τ : St} {f1 f2 f3 : Nat → Int32} {p : Nat} {v w : Int32} : up2 (up2 (upA (upA (upA τ 1 f1) 2 f2) 3 f3) 1 p v) 3 p w = upA (upA (upA τ 1 (upd f1 p v)) 2 f2) 3 (upd f3 p w) := by
  funext c
  by_cases h3 : c = 3
  · subst h3; rfl
  · by_cases h2 : c = 2
    · subst h2; rfl
    · by_cases h1 : c = 1
      · subst h1; rfl
      · simp only [up2_ne h3, up2_ne h1, upA_ne h3, upA_ne h2, upA_ne h1]
theorem st3Mid {τ : St} : upA (upA (upA τ 1 (τ 1)) 2 (τ 2)) 3 (τ 3) = τ := by
  funext c
  by_cases h3 : c = 3
  · subst h3; rfl
  · by_cases h2 : c = 2
    · subst h2; rfl
    · by_cases h1 : c = 1
      · subst h1; rfl
      · simp only [upA_ne h3, upA_ne h2, upA_ne h1]
theorem st3Mc {τ : St} {f1 f2 f3 : Nat → Int32} {v : Int32} : up2 (upA (upA (upA τ 1 f1) 2 f2) 3 f3) 0 0 v = upA (upA (upA (up2 τ 0 0 v) 1 f1) 2 f2) 3 f3 := by
  funext c
  by_cases h3 : c = 3
  · subst h3; rfl
  · by_cases h2 : c = 2
    · subst h2; rfl
    · by_cases h1 : c = 1
      · subst h1; rfl
      · by_cases h0 : c = 0
        · subst h0; rfl
        · simp only [up2_ne h0, upA_ne h3, upA_ne h2, upA_ne h1]
/-- the letters of unit i to unit i + m -/
theorem p_shift {τ : St} {f1 f2 f3 : Nat → Int32} {k m i : Nat} {K : St → Int32 → Prop} {Q : Int32 → St → Prop} (hi : i + m < 80)
    (hK : ∀ g : Nat → Int32, (∀ q, q < 20 → g (20 * (i + m) + q) = f2 (20 * i + q)) → (∀ q, (q < 20 * (i + m) ∨ 20 * (i + m) + 20 ≤ q) → g q = f2 q) → K (upA (upA (upA τ 1 f1) 2 g) 3 f3) (nI i - nI 1)) :
    ∃ n, wpl_X11_put_130 (nI k) (nI m) (nI i) K Q n (upA (upA (upA τ 1 f1) 2 f2) 3 f3) (nI 0) := by
  have key : ∀ d q (g : Nat → Int32), q + d = 20 → (∀ p, p < q → g (20 * (i + m) + p) = f2 (20 * i + p)) → (∀ p, (p < 20 * (i + m) ∨ 20 * (i + m) + q ≤ p) → g p = f2 p) → wpl_X11_put_130 (nI k) (nI m) (nI i) K Q (d + 1) (upA (upA (upA τ 1 f1) 2 g) 3 f3) (nI q) := by
    intro d
    induction d with
    | zero =>
      intro q g hq a1 a2
      obtain rfl : q = 20 := by omega
      unfold wpl_X11_put_130
      exact ⟨fun _ => hK g a1 a2, fun c => absurd (Int32.le_refl _) c⟩
    | succ d ih =>
      intro q g hq a1 a2
      unfold wpl_X11_put_130
      have c1 : ¬ nI 20 ≤ nI q := by simp (disch := omega) only [nI_add, nI_eq, nI_leI, nI_ltI, pk_sub, pk_mul, nI_clamp, nI_eqm1, nI_lt0, vp_in_iffN]; omega
      have c5 : vp_in (nI (20 * i + q)) 1600 := by simp (disch := omega) only [nI_add, nI_eq, nI_leI, nI_ltI, pk_sub, pk_mul, nI_clamp, nI_eqm1, nI_lt0, vp_in_iffN]; omega
      have c6 : vp_in (nI (20 * (i + m) + q)) 1600 := by simp (disch := omega) only [nI_add, nI_eq, nI_leI, nI_ltI, pk_sub, pk_mul, nI_clamp, nI_eqm1, nI_lt0, vp_in_iffN]; omega
      simp only [c1, pk_mul, nI_add, c5, c6, not_false_eq_true, true_implies, false_implies, true_and, nI_clamp (show 20 * i + q < 2 ^ 31 by omega), nI_clamp (show 20 * (i + m) + q < 2 ^ 31 by omega)]
      have e2 : upA (upA (upA τ 1 f1) 2 g) 3 f3 2 (20 * i + q) = g (20 * i + q) := rfl
      have es : ∀ v, up2 (upA (upA (upA τ 1 f1) 2 g) 3 f3) 2 (20 * (i + m) + q) v = upA (upA (upA τ 1 f1) 2 (upd g (20 * (i + m) + q) v)) 3 f3 := by
        intro v
        funext c
        by_cases h3 : c = 3
        · subst h3; rfl
        · by_cases h2 : c = 2
          · subst h2; rfl
          · simp only [up2_ne h2, upA_ne h3, upA_ne h2]
      rw [e2, es, a2 (20 * i + q) (by omega)]
      refine ih (q + 1) _ (by omega) (fun p hp => ?_) (fun p hp => ?_)
      · by_cases hpq : p = q
        · subst hpq; rw [upd_same]
        · rw [upd_ne (by omega), a1 p (by omega)]
      · rw [upd_ne (by omega), a2 p (by omega)]
  exact ⟨21, key 20 0 f2 (by omega) (fun p hp => by omega) (fun p _ => rfl)⟩
theorem p_putLoops {τ : St} {u k r c : Nat} {z zr : Nat → Nat} {b br : Nat → Int32} {L Lr : Nat → Nat → Int32} {Q : Int32 → St → Prop} (hO : OkT u z b L) (hC : ∀ j, j < u → HU (τ 2) (τ 1) (τ 3) j (z j) (b j) (L j)) (h0 : τ 0 0 = nI u) (hOr : OkT r zr br Lr) (hCr : MR τ r zr br Lr) (hk : k < u) (hr : 1 ≤ r) (hur : u + (r - 1) ≤ 80) (hc : c ≤ 20) (h33 : τ 0 33 = nI c)
    (hQ : ∀ f1 f2 f3 f4 f17 : Nat → Int32, (∀ j, j < u + (r - 1) → HU f2 f1 f3 j (spl z zr k r j) (spl b br k r j) (spl L Lr k r j) ∧ f4 j = nI (wn (spl b br k r) j)) → (∀ q, q < c → f17 q = if τ 17 q ≤ nI k then τ 17 q else τ 17 q + nI (r - 1)) → Q (nI (u + (r - 1))) (up2 (upA (upA (upA (upA (upA (up2 τ 0 0 (nI (u + (r - 1)))) 1 f1) 2 f2) 3 f3) 4 f4) 17 f17) 0 25 (nI 0))) :
    ∃ n, wpl_X11_put_94 (nI k) (nI (r - 1)) Q n τ (nI (u - 1)) := by
  have hu := hO.1
  have ez : ∀ j, j < u → z j ≤ 20 := fun j hj => (hO.2 j hj).2.1
  have ezr : ∀ j, j < r → zr j ≤ 20 := fun j hj => (hOr.2 j hj).2.1
  -- the marks
  have key3 : ∀ (ρ : St), ρ 0 33 = nI c → ρ 0 0 = nI (u + (r - 1)) → (∀ f : Nat → Int32, (∀ q, q < c → f q = if ρ 17 q ≤ nI k then ρ 17 q else ρ 17 q + nI (r - 1)) → Q (nI (u + (r - 1))) (up2 (upA ρ 17 f) 0 25 (nI 0))) → ∃ n, wpl_X11_put_215 (nI k) (nI (r - 1)) Q n ρ (nI 0) := by
    intro ρ g33 g0 gQ
    have key : ∀ d i (f : Nat → Int32), i + d = c → (∀ q, q < i → f q = if ρ 17 q ≤ nI k then ρ 17 q else ρ 17 q + nI (r - 1)) → (∀ q, i ≤ q → f q = ρ 17 q) → wpl_X11_put_215 (nI k) (nI (r - 1)) Q (d + 1) (upA ρ 17 f) (nI i) := by
      intro d
      induction d with
      | zero =>
        intro i f hi a1 a2
        obtain rfl : i = c := by omega
        unfold wpl_X11_put_215
        have e : upA ρ 17 f 0 33 = nI i := g33
        have e0 : upA ρ 17 f 0 0 = nI (u + (r - 1)) := g0
        rw [e, e0]
        exact ⟨fun _ => gQ f a1, fun q => absurd (Int32.le_refl _) q⟩
      | succ d ih =>
        intro i f hi a1 a2
        unfold wpl_X11_put_215
        have e : upA ρ 17 f 0 33 = nI c := g33
        have c1 : ¬ nI c ≤ nI i := by simp (disch := omega) only [nI_add, nI_eq, nI_leI, nI_ltI, pk_sub, pk_mul, nI_clamp, nI_eqm1, nI_lt0, vp_in_iffN]; omega
        have c2 : vp_in (nI i) 20 := by simp (disch := omega) only [nI_add, nI_eq, nI_leI, nI_ltI, pk_sub, pk_mul, nI_clamp, nI_eqm1, nI_lt0, vp_in_iffN]; omega
        simp only [e, c1, c2, nI_clamp (show i < 2 ^ 31 by omega), nI_add, upA_same, up2_eq, upA_upA, a2 i (Nat.le_refl _), not_false_eq_true, true_implies, false_implies, true_and]
        refine ⟨fun q => ih (i + 1) f (by omega) (fun p hp => ?_) (fun p hp => a2 p (by omega)), fun q => ih (i + 1) _ (by omega) (fun p hp => ?_) (fun p hp => ?_)⟩
        · by_cases hpi : p = i
          · subst hpi; rw [if_pos q, a2 p (Nat.le_refl _)]
          · exact a1 p (by omega)
        · by_cases hpi : p = i
          · subst hpi; rw [upd_same, if_neg q]
          · rw [upd_ne hpi]; exact a1 p (by omega)
        · rw [upd_ne (by omega)]; exact a2 p (by omega)
    refine ⟨c + 1, ?_⟩
    have := key c 0 (ρ 17) (by omega) (fun q hq => by omega) (fun q _ => rfl)
    have e : upA ρ 17 (ρ 17) = ρ := by
      funext q
      by_cases hq : q = 17
      · subst hq; rw [upA_same]
      · rw [upA_ne hq]
    rw [e] at this
    exact this
  -- the new units
  have key2 : ∀ d a (f1 f2 f3 : Nat → Int32), a + d = r → (∀ j, j < k → HU f2 f1 f3 j (z j) (b j) (L j)) → (∀ j, j < a → HU f2 f1 f3 (k + j) (zr j) (br j) (Lr j)) → (∀ j, k < j → j < u → HU f2 f1 f3 (j + (r - 1)) (z j) (b j) (L j)) → wpl_X11_put_187 (nI k) (nI (r - 1)) Q (d + 1) (upA (upA (upA (up2 τ 0 0 (nI (u + (r - 1)))) 1 f1) 2 f2) 3 f3) (nI a) := by
    intro d
    induction d with
    | zero =>
      intro a f1 f2 f3 ha h1 h2 h3
      obtain rfl : a = r := by omega
      unfold wpl_X11_put_187
      have e : (upA (upA (upA (up2 τ 0 0 (nI (u + (a - 1)))) 1 f1) 2 f2) 3 f3) 0 9 = nI a := hCr.1
      rw [e]
      refine ⟨fun _ => ?_, fun c => absurd (Int32.le_refl _) c⟩
      refine p_words (u := u + (a - 1)) hur rfl (fun f4 hf4 => ?_)
      refine key3 _ h33 rfl (fun f17 hf17 => ?_)
      have all : ∀ j, j < u + (a - 1) → HU f2 f1 f3 j (spl z zr k a j) (spl b br k a j) (spl L Lr k a j) := by
        intro j hj
        unfold spl
        by_cases j1 : j < k
        · simp only [j1, if_true]; exact h1 j j1
        · by_cases j2 : j < k + a
          · simp only [j1, j2, if_true, if_false]
            have := h2 (j - k) (by omega)
            rw [show k + (j - k) = j by omega] at this
            exact this
          · simp only [j1, j2, if_false]
            have := h3 (j + 1 - a) (by omega) (by omega)
            rw [show j + 1 - a + (a - 1) = j by omega] at this
            exact this
      refine hQ f1 f2 f3 f4 f17 (fun j hj => ⟨all j hj, ?_⟩) hf17
      rw [hf4 j hj]
      show nI (wn f3 j) = _
      rw [wn_congr (fun i hi => (all i (by omega)).2.1)]
    | succ d ih =>
      intro a f1 f2 f3 ha h1 h2 h3
      unfold wpl_X11_put_187
      have e : (upA (upA (upA (up2 τ 0 0 (nI (u + (r - 1)))) 1 f1) 2 f2) 3 f3) 0 9 = nI r := hCr.1
      have c1 : ¬ nI r ≤ nI a := by simp (disch := omega) only [nI_add, nI_eq, nI_leI, nI_ltI, pk_sub, pk_mul, nI_clamp, nI_eqm1, nI_lt0, vp_in_iffN]; omega
      simp only [e, c1, not_false_eq_true, true_implies, false_implies, true_and, nI_add]
      obtain ⟨q1, q2, q3⟩ := hCr.2 a (by omega)
      refine p_takes (zk := zr a) (by omega) (by omega) (ezr a (by omega)) q1 (fun g g1 g2 => ?_)
      rw [st3M]
      refine ih (a + 1) _ _ _ (by omega) (fun j hj => (h1 j hj).otherG (ez j (by omega)) (by omega) g2) (fun j hj => ?_) (fun j j1 j2 => (h3 j j1 j2).otherG (ez j j2) (by omega) g2)
      by_cases hja : j = a
      · subst hja
        exact ⟨by rw [upd_same], by rw [upd_same]; exact q2, fun i hi => by rw [g1 i hi]; exact q3 i hi⟩
      · exact (h2 j (by omega)).otherG (ezr j (by omega)) (by omega) g2
  -- those behind
  have key1 : ∀ d (f1 f2 f3 : Nat → Int32), k + d < u → (∀ j, j ≤ k + d → HU f2 f1 f3 j (z j) (b j) (L j)) → (∀ j, k + d < j → j < u → HU f2 f1 f3 (j + (r - 1)) (z j) (b j) (L j)) → wpl_X11_put_94 (nI k) (nI (r - 1)) Q (d + 1) (upA (upA (upA τ 1 f1) 2 f2) 3 f3) (nI (k + d)) := by
    intro d
    induction d with
    | zero =>
      intro f1 f2 f3 hd h1 h2
      unfold wpl_X11_put_94
      refine ⟨fun _ => ⟨r + 1, ?_⟩, fun c => absurd (Int32.le_refl _) c⟩
      have e0 : (upA (upA (upA τ 1 f1) 2 f2) 3 f3) 0 0 = nI u := h0
      rw [e0, nI_add, st3Mc]
      exact key2 r 0 f1 f2 f3 (by omega) (fun j hj => h1 j (by omega)) (fun j hj => by omega) (fun j j1 j2 => h2 j (by omega) j2)
    | succ d ih =>
      intro f1 f2 f3 hd h1 h2
      unfold wpl_X11_put_94
      have c1 : ¬ nI (k + (d + 1)) ≤ nI k := by simp (disch := omega) only [nI_add, nI_eq, nI_leI, nI_ltI, pk_sub, pk_mul, nI_clamp, nI_eqm1, nI_lt0, vp_in_iffN]; omega
      have c2 : vp_in (nI (k + (d + 1))) 80 := by simp (disch := omega) only [nI_add, nI_eq, nI_leI, nI_ltI, pk_sub, pk_mul, nI_clamp, nI_eqm1, nI_lt0, vp_in_iffN]; omega
      have c3 : vp_in (nI (k + (d + 1) + (r - 1))) 80 := by simp (disch := omega) only [nI_add, nI_eq, nI_leI, nI_ltI, pk_sub, pk_mul, nI_clamp, nI_eqm1, nI_lt0, vp_in_iffN]; omega
      simp only [c1, c2, c3, not_false_eq_true, true_implies, false_implies, true_and, nI_add, nI_clamp (show k + (d + 1) < 2 ^ 31 by omega), nI_clamp (show k + (d + 1) + (r - 1) < 2 ^ 31 by omega)]
      rw [st3M']
      have hm := h1 (k + (d + 1)) (Nat.le_refl _)
      refine p_shift (by omega) (fun g g1 g2 => ?_)
      rw [pk_sub (show 1 ≤ k + (d + 1) by omega), show k + (d + 1) - 1 = k + d by omega]
      refine ih _ _ _ (by omega) (fun j hj => ?_) (fun j j1 j2 => ?_)
      · exact (h1 j (by omega)).otherG (ez j (by omega)) (by omega) g2
      · by_cases hjd : j = k + (d + 1)
        · subst hjd
          have hz := ez _ j2
          exact ⟨by rw [upd_same]; exact hm.1, by rw [upd_same]; exact hm.2.1, fun i hi => by rw [g1 i (by omega)]; exact hm.2.2 i hi⟩
        · exact (h2 j (by omega) j2).otherG (ez j j2) (by omega) g2
  refine ⟨u - 1 - k + 1, ?_⟩
  have := key1 (u - 1 - k) (τ 1) (τ 2) (τ 3) (by omega) (fun j hj => hC j (by omega)) (fun j j1 j2 => by omega)
  rw [st3Mid, show k + (u - 1 - k) = u - 1 by omega] at this
  exact this
theorem spl_ok {u k r : Nat} {z zr : Nat → Nat} {b br : Nat → Int32} {L Lr : Nat → Nat → Int32} (hO : OkT u z b L) (hOr : OkT r zr br Lr) (hk : k < u) (hr : 1 ≤ r) (hur : u + (r - 1) ≤ 80) : OkT (u + (r - 1)) (spl z zr k r) (spl b br k r) (spl L Lr k r) := by
  refine ⟨hur, fun j hj => ?_⟩
  unfold spl
  by_cases j1 : j < k
  · simp only [j1, if_true]; exact hO.2 j (by omega)
  · by_cases j2 : j < k + r
    · simp only [j1, j2, if_true, if_false]; exact hOr.2 (j - k) (by omega)
    · simp only [j1, j2, if_false]; exact hO.2 (j + 1 - r) (by omega)
