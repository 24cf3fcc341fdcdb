/-! put() -/
def whole_ (b : Nat → Int32) (k : Nat) : Prop := ¬ b k = nI 45 ∧ (k = 0 ∨ ¬ b (k - 1) = nI 45)
theorem p_isWhole {σ : St} {u k : Nat} {Q : Int32 → St → Prop} (hu : σ 8 3 = nI u) (hu2 : u ≤ 80) (hk : k < u) (h1 : whole_ (σ 11) k → Q (nI 1) σ) (h0 : ¬ whole_ (σ 11) k → Q (nI 0) σ) : wp_X9_isWholeWord σ (nI k) Q := by
  simp only [wp_X9_isWholeWord, e_has9k hu hu2 hk, e_goesOn9 hu hu2 hk, nI10, not_true_eq_false, not_false_eq_true, true_implies, false_implies, and_true, true_and]
  refine ⟨fun q => ?_, fun q => h0 (fun w => w.1 q)⟩
  by_cases hk0 : k = 0
  · subst hk0
    have e : nI 0 - nI 1 = -1 := by decide
    have c : ((-1 : Int32) < nI 0 ∨ nI u ≤ -1) := Or.inl (by decide)
    simp only [e, wp_X9_goesOn, wp_X9_behind, e_has9, hu, c, show ¬ (-1 : Int32) = nI 45 by decide, not_true_eq_false, not_false_eq_true, true_implies, false_implies, and_true, true_and]
    exact h1 ⟨q, Or.inl rfl⟩
  · rw [pk_sub (show 1 ≤ k by omega), e_goesOn9 hu hu2 (show k - 1 < u by omega)]
    simp only [nI10, not_true_eq_false, not_false_eq_true, true_implies, false_implies, and_true, true_and]
    exact ⟨fun q2 => h1 ⟨q, Or.inr q2⟩, fun q2 => h0 (fun w => w.2.elim hk0 (fun w => w q2))⟩
/-- unit j of three rows -/
def HU (f9 f10 f11 : Nat → Int32) (j zz : Nat) (bb : Int32) (LL : Nat → Int32) : Prop := f10 j = nI zz ∧ f11 j = bb ∧ ∀ i, i < zz → f9 (20 * j + i) = LL i
theorem HU.other {f9 f10 f11 g : Nat → Int32} {j zz p s : Nat} {bb v w : Int32} {LL : Nat → Int32} (h : HU f9 f10 f11 j zz bb LL) (hz : zz ≤ 20) (hj : j ≠ p) : HU (va_cpy g f9 s (20 * p) 20) (upd f10 p v) (upd f11 p w) j zz bb LL := by
  obtain ⟨h1, h2, h3⟩ := h
  exact ⟨by rw [upd_ne hj, h1], by rw [upd_ne hj, h2], fun i hi => by rw [pk_cpy_out (by omega)]; exact h3 i hi⟩
theorem HU.moved {g9 g10 g11 f9 f10 f11 : Nat → Int32} {j zz p : Nat} {bb : Int32} {LL : Nat → Int32} (h : HU g9 g10 g11 j zz bb LL) (hz : zz ≤ 20) : HU (va_cpy g9 f9 (20 * j) (20 * p) 20) (upd f10 p (g10 j)) (upd f11 p (g11 j)) p zz bb LL := by
  obtain ⟨h1, h2, h3⟩ := h
  refine ⟨by rw [upd_same, h1], by rw [upd_same, h2], fun i hi => ?_⟩
  rw [pk_cpy_in (by omega) (by omega), show 20 * j + (20 * p + i - 20 * p) = 20 * j + i by omega]
  exact h3 i hi
theorem e_copy8 {σ : St} {k j : Nat} {Q : St → Prop} (hk : k < 80) (hj : j < 80) : wp_X9_copyUnit_8 σ (nI k) (nI j) Q = Q (up2 (up2 (upA σ 9 (va_cpy (σ 9) (σ 9) (20 * k) (20 * j) 20)) 10 j (σ 10 k)) 11 j (σ 11 k)) := by
  have c1 : ¬ nI (k * 20) < nI 0 := by simp (disch := omega) only [nI_add, nI_eq, nI_leI, nI_ltI, pk_sub, pk_mul, nI_clamp, nI_eqm1, nI_lt0, vp_in_iffN]; omega
  have c2 : ¬ nI (j * 20) < nI 0 := by simp (disch := omega) only [nI_add, nI_eq, nI_leI, nI_ltI, pk_sub, pk_mul, nI_clamp, nI_eqm1, nI_lt0, vp_in_iffN]; omega
  have c3 : vp_in (nI k) 80 := by simp (disch := omega) only [nI_add, nI_eq, nI_leI, nI_ltI, pk_sub, pk_mul, nI_clamp, nI_eqm1, nI_lt0, vp_in_iffN]; omega
  have c4 : vp_in (nI j) 80 := by simp (disch := omega) only [nI_add, nI_eq, nI_leI, nI_ltI, pk_sub, pk_mul, nI_clamp, nI_eqm1, nI_lt0, vp_in_iffN]; omega
  have c5 : (nI 20).toNatClampNeg = 20 := nI_clamp (by decide)
  simp only [wp_X9_copyUnit_8, pk_mul, c1, c2, c3, c4, c5, nI_clamp (show k * 20 < 2 ^ 31 by omega), nI_clamp (show j * 20 < 2 ^ 31 by omega), nI_clamp (show k < 2 ^ 31 by omega), nI_clamp (show j < 2 ^ 31 by omega), not_false_eq_true, true_and, show k * 20 + 20 ≤ 1600 by omega, show j * 20 + 20 ≤ 1600 by omega, Nat.mul_comm 20]
theorem st3 {σ : St} {f9 f10 f11 g9 : Nat → Int32} {p : Nat} {v w : Int32} : up2 (up2 (upA (upA (upA (upA σ 9 f9) 10 f10) 11 f11) 9 g9) 10 p v) 11 p w = upA (upA (upA σ 9 g9) 10 (upd f10 p v)) 11 (upd f11 p w) := by
  funext c
  by_cases h11 : c = 11
  · subst h11; rfl
  · by_cases h10 : c = 10
    · subst h10; rfl
    · by_cases h9 : c = 9
      · subst h9; rfl
      · simp only [up2_ne h11, up2_ne h10, upA_ne h11, upA_ne h10, upA_ne h9]
theorem st3id {σ : St} : upA (upA (upA σ 9 (σ 9)) 10 (σ 10)) 11 (σ 11) = σ := by
  funext c
  by_cases h11 : c = 11
  · subst h11; rfl
  · by_cases h10 : c = 10
    · subst h10; rfl
    · by_cases h9 : c = 9
      · subst h9; rfl
      · simp only [upA_ne h11, upA_ne h10, upA_ne h9]
/-- a text with unit k given way to r others -/
def spl {α : Type} (X Y : Nat → α) (k r : Nat) : Nat → α := fun j => if j < k then X j else if j < k + r then Y (j - k) else X (j + 1 - r)
theorem p_replace {σ : St} {u k r : Nat} {z zr : Nat → Nat} {b br : Nat → Int32} {L Lr : Nat → Nat → Int32} {Q : St → Prop} (hO : OkT u z b L) (hC : CU σ u z b L) (hOr : OkT r zr br Lr) (hCr : CR σ r zr br Lr) (hk : k < u) (hr : 1 ≤ r) (hur : u + (r - 1) ≤ 80)
    (hQ : ∀ f9 f10 f11 : Nat → Int32, (∀ j, j < u + (r - 1) → HU f9 f10 f11 j (spl z zr k r j) (spl b br k r j) (spl L Lr k r j)) → Q (up2 (upA (upA (upA σ 9 f9) 10 f10) 11 f11) 8 3 (nI (u + (r - 1))))) : wp_X9_replace_4 σ (nI k) Q := by
  have hu := hO.1
  have ez : ∀ j, j < u → z j ≤ 20 := fun j hj => (hO.2 j hj).2.1
  have ezr : ∀ j, j < r → zr j ≤ 20 := fun j hj => (hOr.2 j hj).2.1
  -- the new ones
  have key2 : ∀ d a (f9 f10 f11 : Nat → Int32), a + d = r → (∀ j, j < k → HU f9 f10 f11 j (z j) (b j) (L j)) → (∀ j, j < a → HU f9 f10 f11 (k + j) (zr j) (br j) (Lr j)) → (∀ j, k < j → j < u → HU f9 f10 f11 (j + (r - 1)) (z j) (b j) (L j)) → wpl_X9_replace_4_65 (nI k) (nI (r - 1)) Q (d + 1) (upA (upA (upA σ 9 f9) 10 f10) 11 f11) (nI a) := by
    intro d
    induction d with
    | zero =>
      intro a f9 f10 f11 ha h1 h2 h3
      obtain rfl : a = r := by omega
      unfold wpl_X9_replace_4_65
      have e : (upA (upA (upA σ 9 f9) 10 f10) 11 f11) 4 3 = nI a := hCr.1
      have e8 : (upA (upA (upA σ 9 f9) 10 f10) 11 f11) 8 3 = nI u := hC.1
      rw [e, e8, nI_add]
      refine ⟨fun _ => hQ f9 f10 f11 (fun j hj => ?_), fun c => absurd (Int32.le_refl _) c⟩
      unfold spl
      by_cases j1 : j < k
      · simp only [j1, if_true]; exact h1 j j1
      · by_cases j2 : j < k + a
        · simp only [j1, j2, if_true, if_false]
          have := h2 (j - k) (by omega)
          rw [show k + (j - k) = j by omega] at this
          exact this
        · simp only [j1, j2, if_false]
          have := h3 (j + 1 - a) (by omega) (by omega)
          rw [show j + 1 - a + (a - 1) = j by omega] at this
          exact this
    | succ d ih =>
      intro a f9 f10 f11 ha h1 h2 h3
      unfold wpl_X9_replace_4_65
      have e : (upA (upA (upA σ 9 f9) 10 f10) 11 f11) 4 3 = nI r := hCr.1
      have c1 : ¬ nI r ≤ nI a := by simp (disch := omega) only [nI_add, nI_eq, nI_leI, nI_ltI, pk_sub, pk_mul, nI_clamp, nI_eqm1, nI_lt0, vp_in_iffN]; omega
      simp only [e, c1, not_false_eq_true, true_implies, false_implies, true_and, nI_add]
      rw [e_copy4 (by omega) (by omega), st3]
      have hm : HU (σ 5) (σ 6) (σ 7) a (zr a) (br a) (Lr a) := hCr.2 a (by omega)
      refine ih (a + 1) _ _ _ (by omega) (fun j hj => (h1 j hj).other (ez j (by omega)) (by omega)) (fun j hj => ?_) (fun j j1 j2 => (h3 j j1 j2).other (ez j j2) (by omega))
      by_cases hja : j = a
      · subst hja
        exact hm.moved (ezr j (by omega))
      · exact (h2 j (by omega)).other (ezr j (by omega)) (by omega)
  -- those behind
  have key1 : ∀ d (f9 f10 f11 : Nat → Int32), k + d < u → (∀ j, j ≤ k + d → HU f9 f10 f11 j (z j) (b j) (L j)) → (∀ j, k + d < j → j < u → HU f9 f10 f11 (j + (r - 1)) (z j) (b j) (L j)) → wpl_X9_replace_4_39 (nI k) (nI (r - 1)) Q (d + 1) (upA (upA (upA σ 9 f9) 10 f10) 11 f11) (nI (k + d)) := by
    intro d
    induction d with
    | zero =>
      intro f9 f10 f11 hd h1 h2
      unfold wpl_X9_replace_4_39
      refine ⟨fun _ => ⟨r + 1, key2 r 0 f9 f10 f11 (by omega) (fun j hj => h1 j (by omega)) (fun j hj => by omega) (fun j j1 j2 => h2 j (by omega) j2)⟩, fun c => absurd (Int32.le_refl _) c⟩
    | succ d ih =>
      intro f9 f10 f11 hd h1 h2
      unfold wpl_X9_replace_4_39
      have c1 : ¬ nI (k + (d + 1)) ≤ nI k := by simp (disch := omega) only [nI_add, nI_eq, nI_leI, nI_ltI, pk_sub, pk_mul, nI_clamp, nI_eqm1, nI_lt0, vp_in_iffN]; omega
      have ep : nI (k + (d + 1)) - nI 1 = nI (k + d) := by rw [pk_sub (by omega)]; rfl
      simp only [c1, ep, not_false_eq_true, true_implies, false_implies, true_and, nI_add]
      rw [e_copy8 (by omega) (by omega), st3]
      have hm := h1 (k + (d + 1)) (Nat.le_refl _)
      refine ih _ _ _ (by omega) (fun j hj => ?_) (fun j j1 j2 => ?_)
      · by_cases hr0 : j = k + (d + 1) + (r - 1)
        · omega
        · exact (h1 j (by omega)).other (ez j (by omega)) hr0
      · by_cases hjd : j = k + (d + 1)
        · subst hjd
          exact hm.moved (ez _ j2)
        · exact (h2 j (by omega) j2).other (ez j j2) (by omega)
  have c1 : ¬ nI r - nI 1 < nI 0 := by simp (disch := omega) only [nI_add, nI_eq, nI_leI, nI_ltI, pk_sub, pk_mul, nI_clamp, nI_eqm1, nI_lt0, vp_in_iffN]; omega
  have c2 : nI u + (nI r - nI 1) ≤ nI 80 := by simp (disch := omega) only [nI_add, nI_eq, nI_leI, nI_ltI, pk_sub, pk_mul, nI_clamp, nI_eqm1, nI_lt0, vp_in_iffN]; omega
  have e4 : σ 4 3 = nI r := hCr.1
  simp only [wp_X9_replace_4, e_has9k hC.1 hu hk, hC.1, e4, c1, c2, nI10, not_true_eq_false, not_false_eq_true, true_implies, false_implies, true_and, and_true]
  rw [pk_sub hr, pk_sub (show 1 ≤ u by omega)]
  refine ⟨u - 1 - k + 1, ?_⟩
  have := key1 (u - 1 - k) (σ 9) (σ 10) (σ 11) (by omega) (fun j hj => hC.2 j (by omega)) (fun j j1 j2 => by omega)
  rw [st3id, show k + (u - 1 - k) = u - 1 by omega] at this
  exact this
/-- the marks behind k move -/
theorem p_moveBehind {σ : St} {c k m : Nat} {Q : St → Prop} (hc : c ≤ 20) (h2 : σ 27 2 = nI c) (hQ : ∀ f : Nat → Int32, (∀ q, q < c → f q = if σ 28 q ≤ nI k then σ 28 q else σ 28 q + nI m) → Q (upA σ 28 f)) : wp_X0_moveBehind σ (nI k) (nI m) Q := by
  have key : ∀ d i (f : Nat → Int32), i + d = c → (∀ q, q < i → f q = if σ 28 q ≤ nI k then σ 28 q else σ 28 q + nI m) → (∀ q, i ≤ q → f q = σ 28 q) → wpl_X0_moveBehind_2 (nI k) (nI m) Q (d + 1) (upA σ 28 f) (nI i) := by
    intro d
    induction d with
    | zero =>
      intro i f hi a1 a2
      obtain rfl : i = c := by omega
      unfold wpl_X0_moveBehind_2
      have e : upA σ 28 f 27 2 = nI i := h2
      rw [e]
      exact ⟨fun _ => hQ f a1, fun q => absurd (Int32.le_refl _) q⟩
    | succ d ih =>
      intro i f hi a1 a2
      unfold wpl_X0_moveBehind_2
      have e : upA σ 28 f 27 2 = nI c := h2
      have c1 : ¬ nI c ≤ nI i := by simp (disch := omega) only [nI_add, nI_eq, nI_leI, nI_ltI, pk_sub, pk_mul, nI_clamp, nI_eqm1, nI_lt0, vp_in_iffN]; omega
      have c2 : vp_in (nI i) 20 := by simp (disch := omega) only [nI_add, nI_eq, nI_leI, nI_ltI, pk_sub, pk_mul, nI_clamp, nI_eqm1, nI_lt0, vp_in_iffN]; omega
      simp only [e, c1, c2, nI_clamp (show i < 2 ^ 31 by omega), nI_add, upA_same, up2_eq, upA_upA, a2 i (Nat.le_refl _), not_false_eq_true, true_implies, false_implies, true_and]
      refine ⟨fun q => ih (i + 1) f (by omega) (fun p hp => ?_) (fun p hp => a2 p (by omega)), fun q => ih (i + 1) _ (by omega) (fun p hp => ?_) (fun p hp => ?_)⟩
      · by_cases hpi : p = i
        · subst hpi; rw [if_pos q, a2 p (Nat.le_refl _)]
        · exact a1 p (by omega)
      · by_cases hpi : p = i
        · subst hpi; rw [upd_same, if_neg q]
        · rw [upd_ne hpi]; exact a1 p (by omega)
      · rw [upd_ne (by omega)]; exact a2 p (by omega)
  refine ⟨c + 1, ?_⟩
  have := key c 0 (σ 28) (by omega) (fun q hq => by omega) (fun q _ => rfl)
  have e : upA σ 28 (σ 28) = σ := by
    funext q
    by_cases hq : q = 28
    · subst hq; rw [upA_same]
    · rw [upA_ne hq]
  rw [e] at this
  exact this
