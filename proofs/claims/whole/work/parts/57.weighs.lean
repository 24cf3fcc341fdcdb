/-! the reference's table of strains -/
def s3 (τ : St) (g10 g11 f12 : Nat → Int32) : St := upA (upA (upA τ 10 g10) 11 g11) 12 f12
theorem s3_10 {τ : St} {g10 g11 f12 g : Nat → Int32} : upA (s3 τ g10 g11 f12) 10 g = s3 τ g g11 f12 := by
  funext d
  by_cases h12 : d = 12
  · subst h12; rfl
  · by_cases h11 : d = 11
    · subst h11; rfl
    · by_cases h10 : d = 10
      · subst h10; rfl
      · simp only [s3, upA_ne h10, upA_ne h11, upA_ne h12]
theorem s3_11 {τ : St} {g10 g11 f12 g : Nat → Int32} : upA (s3 τ g10 g11 f12) 11 g = s3 τ g10 g f12 := by
  funext d
  by_cases h12 : d = 12
  · subst h12; rfl
  · by_cases h11 : d = 11
    · subst h11; rfl
    · by_cases h10 : d = 10
      · subst h10; rfl
      · simp only [s3, upA_ne h10, upA_ne h11, upA_ne h12]
theorem s3_12 {τ : St} {g10 g11 f12 : Nat → Int32} {i : Nat} {v : Int32} : up2 (s3 τ g10 g11 f12) 12 i v = s3 τ g10 g11 (upd f12 i v) := by
  funext d
  by_cases h12 : d = 12
  · subst h12; rfl
  · rw [up2_ne h12]
    simp only [s3, upA_ne h12]
theorem s3_id {τ : St} : s3 τ (τ 10) (τ 11) (τ 12) = τ := by
  funext d
  by_cases h12 : d = 12
  · subst h12; rfl
  · by_cases h11 : d = 11
    · subst h11; rfl
    · by_cases h10 : d = 10
      · subst h10; rfl
      · simp only [s3, upA_ne h10, upA_ne h11, upA_ne h12]
def mbF (g : Nat → Nat) : Nat → Nat
  | 0 => 1000000000
  | k + 1 => if mbF g k ≤ g (k + 1) then mbF g k else g (k + 1)
theorem mbF_le (g : Nat → Nat) : ∀ k, mbF g k ≤ 1000000000
  | 0 => Nat.le_refl _
  | k + 1 => by
    have := mbF_le g k
    simp only [mbF]
    split <;> omega
/-- of line (f, n) and the line (f + n, m) below it and all that follow -/
def co_ (T : Nat → Nat → Nat) (z : Nat → Nat) (b : Nat → Int32) (S : Nat → Int32) (sp rv : Nat) (lk : Nat → Nat → Nat) (f n m : Nat) : Nat :=
  if T (f + n) m < 1000000000 then pr_ z b S sp rv lk f n m + T (f + n) m else 1000000000
section WGS
variable {u : Nat} {z : Nat → Nat} {b : Nat → Int32} {L : Nat → Nat → Int32} {lg sp sh ph inn ct rv : Nat} {lk : Nat → Nat → Nat} {T : Nat → Nat → Nat}
theorem co_le (hM : OkM lg sp sh ph inn ct rv lk) {S : Nat → Int32} {f n m : Nat} (hfit : NS_ z b sp f n ≤ lg) : co_ T z b S sp rv lk f n m ≤ 1000060000 := by
  have := hM.2.1
  have := pr_le (z := z) (b := b) (S := S) (sp := sp) (f := f) (n := n) (m := m) hM.2.2.2.2.2.2.2.2.1 hM.2.2.2.2.2.2.2.2.2 (by unfold NS_ at hfit; omega)
  unfold co_
  split <;> omega
theorem p_weighs {τ : St} {Q : St → Prop} (hO : OkT u z b L) (hM : OkM lg sp sh ph inn ct rv lk) (hU : MU τ u z b L) (hm : MM τ lg sp sh ph inn ct rv lk)
    (T1 : ∀ f n, 1 ≤ n → f + n ≤ u → ¬ NS_ z b sp f n ≤ lg → T f n = 1000000000)
    (T2 : ∀ f n, 1 ≤ n → f + n = u → NS_ z b sp f n ≤ lg → T f n = 0)
    (T3 : ∀ f n, 1 ≤ n → f + n < u → NS_ z b sp f n ≤ lg → T f n = if mbF (co_ T z b (sg_ z b L sp u) sp rv lk f n) (min 60 (u - (f + n))) < 1000000000 then mbF (co_ T z b (sg_ z b L sp u) sp rv lk f n) (min 60 (u - (f + n))) + ls_ z b lg sp sh ph inn ct f n else 1000000000)
    (T4 : ∀ f n, T f n ≤ 1000000000)
    (hQ : ∀ g10 g11 f12 : Nat → Int32, (∀ g m, g < u → 1 ≤ m → m ≤ min 60 (u - g) → f12 (61 * g + m) = nI (T g m)) → Q (s3 τ g10 g11 f12)) : wp_X11_weighs τ Q := by
  have hu := hO.1
  have hlg := hM.2.1
  have inner : ∀ (f n : Nat) (K : St → Int32 → Prop) (g10 : Nat → Int32), 1 ≤ n → f + n < u → n ≤ 60 → NS_ z b sp f n ≤ lg → (∀ i, i < B_ z b sp f n → g10 i = sg_ z b L sp u (bg_ z b sp f + i)) → (b (f + n - 1) = nI 45 → g10 (B_ z b sp f n) = nI 45) → ∀ d m (g11 f12 : Nat → Int32), m + d = min 60 (u - (f + n)) + 1 → 1 ≤ m → (∀ g m, f < g → g < u → 1 ≤ m → m ≤ min 60 (u - g) → f12 (61 * g + m) = nI (T g m)) → (∀ g11 : Nat → Int32, K (s3 τ g10 g11 (upd f12 (61 * f + n) (nI (T f n)))) (nI (n + 1))) → wpl_X11_weighs_58 (nI f) (nI n) (nI (NS_ z b sp f n)) K Q (d + 1) (s3 τ g10 g11 f12) (nI (mbF (co_ T z b (sg_ z b L sp u) sp rv lk f n) (m - 1))) (nI m) := by
    intro f n K g10 hn hf hn60 hfit a1 a2 d
    have nm1 : ¬ nI (NS_ z b sp f n) = (-1 : Int32) := fun e => (nI_eqm1 (show NS_ z b sp f n < 2 ^ 31 by omega)).mp e
    have cu : ¬ nI u ≤ nI (f + n) := by simp (disch := omega) only [nI_add, nI_eq, nI_leI, nI_ltI, pk_sub, pk_mul, nI_clamp, nI_eqm1, nI_lt0, vp_in_iffN]; omega
    have cf : vp_in (nI (61 * f + n)) 4941 := by simp (disch := omega) only [nI_add, nI_eq, nI_leI, nI_ltI, pk_sub, pk_mul, nI_clamp, nI_eqm1, nI_lt0, vp_in_iffN]; omega
    induction d with
    | zero =>
      intro m g11 f12 hmd hm1 h1 hK
      obtain rfl : m = min 60 (u - (f + n)) + 1 := by omega
      have e0 : (s3 τ g10 g11 f12) 0 0 = nI u := hU.1
      have lt : nI (min 60 (u - (f + n))) < nI (min 60 (u - (f + n)) + 1) := by simp (disch := omega) only [nI_add, nI_eq, nI_leI, nI_ltI, pk_sub, pk_mul, nI_clamp, nI_eqm1, nI_lt0, vp_in_iffN]; omega
      unfold wpl_X11_weighs_58
      simp only [nm1, e0, nI_add f n, cu, not_false_eq_true, true_implies, false_implies, true_and]
      rw [e_most hu e0 (show f + n ≤ u by omega)]
      simp only [lt, not_true_eq_false, true_implies, false_implies, and_true, wp_X11_place, pk_mul, nI_add, Nat.add_sub_cancel, nI_clamp (show 61 * f + n < 2 ^ 31 by omega)]
      have hb := mbF_le (co_ T z b (sg_ z b L sp u) sp rv lk f n) (min 60 (u - (f + n)))
      have e1 : nI (mbF (co_ T z b (sg_ z b L sp u) sp rv lk f n) (min 60 (u - (f + n)))) < nI 1000000000 ↔ mbF (co_ T z b (sg_ z b L sp u) sp rv lk f n) (min 60 (u - (f + n))) < 1000000000 := nI_ltI (by omega) (by decide)
      have hT := T3 f n hn hf hfit
      have hk := hK g11
      rw [e1]
      refine ⟨fun q => ?_, fun q => ⟨cf, ?_⟩⟩
      · rw [e_lineStrain hO (show MU (s3 τ g10 g11 f12) u z b L from hU) (show MM (s3 τ g10 g11 f12) lg sp sh ph inn ct rv lk from hm) hn hf hfit]
        refine ⟨cf, ?_⟩
        rw [if_pos q] at hT
        rw [nI_add, s3_12, ← hT]
        exact hk
      · rw [if_neg q] at hT
        rw [s3_12, ← hT]
        exact hk
    | succ d ih =>
      intro m g11 f12 hmd hm1 h1 hK
      have e0 : (s3 τ g10 g11 f12) 0 0 = nI u := hU.1
      have lt : ¬ nI (min 60 (u - (f + n))) < nI m := by simp (disch := omega) only [nI_add, nI_eq, nI_leI, nI_ltI, pk_sub, pk_mul, nI_clamp, nI_eqm1, nI_lt0, vp_in_iffN]; omega
      unfold wpl_X11_weighs_58
      simp only [nm1, e0, nI_add f n, cu, not_false_eq_true, true_implies, false_implies, true_and]
      rw [e_most hu e0 (show f + n ≤ u by omega)]
      simp only [lt, not_false_eq_true, true_implies, false_implies, true_and]
      refine p_costOf (τ := s3 τ g10 g11 f12) (t := T (f + n) m) hO hM hU hm hn hm1 (by omega) (by omega) (h1 (f + n) m (by omega) hf hm1 (by omega)) (T4 _ _) (fun hl => ?_) hfit a1 a2 (fun g => ?_)
      · refine Classical.byContradiction (fun hc => ?_)
        have := T1 (f + n) m hm1 (by omega) hc
        omega
      · have ec : (if T (f + n) m < 1000000000 then pr_ z b (sg_ z b L sp u) sp rv lk f n m + T (f + n) m else 1000000000) = co_ T z b (sg_ z b L sp u) sp rv lk f n m := rfl
        rw [ec, s3_11]
        have b1 := mbF_le (co_ T z b (sg_ z b L sp u) sp rv lk f n) (m - 1)
        have b2 := co_le (T := T) (z := z) (b := b) (S := sg_ z b L sp u) (f := f) (n := n) (m := m) hM hfit
        have nx := ih (m + 1) g f12 (by omega) (by omega) h1 hK
        have em : mbF (co_ T z b (sg_ z b L sp u) sp rv lk f n) (m + 1 - 1) = if mbF (co_ T z b (sg_ z b L sp u) sp rv lk f n) (m - 1) ≤ co_ T z b (sg_ z b L sp u) sp rv lk f n m then mbF (co_ T z b (sg_ z b L sp u) sp rv lk f n) (m - 1) else co_ T z b (sg_ z b L sp u) sp rv lk f n m := by
          obtain ⟨k, rfl⟩ : ∃ k, m = k + 1 := ⟨m - 1, by omega⟩
          rfl
        rw [em] at nx
        rw [nI_leI (show mbF (co_ T z b (sg_ z b L sp u) sp rv lk f n) (m - 1) < 2 ^ 31 by omega) (show co_ T z b (sg_ z b L sp u) sp rv lk f n m < 2 ^ 31 by omega), nI_add m 1]
        refine ⟨fun q => ?_, fun q => ?_⟩
        · rw [if_pos q] at nx; exact nx
        · rw [if_neg q] at nx; exact nx
  have mid : ∀ (f : Nat) (K : St → Int32 → Prop), f < u → ∀ d n (g10 g11 f12 : Nat → Int32), n + d = min 60 (u - f) + 1 → 1 ≤ n → (∀ g m, f < g → g < u → 1 ≤ m → m ≤ min 60 (u - g) → f12 (61 * g + m) = nI (T g m)) → (∀ j, 1 ≤ j → j < n → f12 (61 * f + j) = nI (T f j)) → (∀ g10 g11 f12 : Nat → Int32, (∀ g m, f ≤ g → g < u → 1 ≤ m → m ≤ min 60 (u - g) → f12 (61 * g + m) = nI (T g m)) → K (s3 τ g10 g11 f12) (nI f - nI 1)) → wpl_X11_weighs_13 (nI f) K Q (d + 1) (s3 τ g10 g11 f12) (nI n) := by
    intro f K hf d
    induction d with
    | zero =>
      intro n g10 g11 f12 hnd hn1 h1 h2 hK
      obtain rfl : n = min 60 (u - f) + 1 := by omega
      have e0 : (s3 τ g10 g11 f12) 0 0 = nI u := hU.1
      have lt : nI (min 60 (u - f)) < nI (min 60 (u - f) + 1) := by simp (disch := omega) only [nI_add, nI_eq, nI_leI, nI_ltI, pk_sub, pk_mul, nI_clamp, nI_eqm1, nI_lt0, vp_in_iffN]; omega
      unfold wpl_X11_weighs_13
      rw [e_most hu e0 (show f ≤ u by omega)]
      simp only [lt, not_true_eq_false, true_implies, false_implies, and_true]
      refine hK _ _ _ (fun g m g1 g2 g3 g4 => ?_)
      by_cases hg : g = f
      · subst hg; exact h2 m g3 (by omega)
      · exact h1 g m (by omega) g2 g3 g4
    | succ d ih =>
      intro n g10 g11 f12 hnd hn1 h1 h2 hK
      have e0 : (s3 τ g10 g11 f12) 0 0 = nI u := hU.1
      have lt : ¬ nI (min 60 (u - f)) < nI n := by simp (disch := omega) only [nI_add, nI_eq, nI_leI, nI_ltI, pk_sub, pk_mul, nI_clamp, nI_eqm1, nI_lt0, vp_in_iffN]; omega
      have cf : vp_in (nI (61 * f + n)) 4941 := by simp (disch := omega) only [nI_add, nI_eq, nI_leI, nI_ltI, pk_sub, pk_mul, nI_clamp, nI_eqm1, nI_lt0, vp_in_iffN]; omega
      have nx : ∀ g10 g11 : Nat → Int32, wpl_X11_weighs_13 (nI f) K Q (d + 1) (s3 τ g10 g11 (upd f12 (61 * f + n) (nI (T f n)))) (nI (n + 1)) := by
        intro g10 g11
        refine ih (n + 1) g10 g11 _ (by omega) (by omega) (fun g m g1 g2 g3 g4 => ?_) (fun j j1 j2 => ?_) hK
        · rw [upd_ne (by omega)]; exact h1 g m g1 g2 g3 g4
        · by_cases hj : j = n
          · subst hj; rw [upd_same]
          · rw [upd_ne (by omega)]; exact h2 j j1 (by omega)
      unfold wpl_X11_weighs_13
      rw [e_most hu e0 (show f ≤ u by omega)]
      simp only [lt, not_false_eq_true, true_implies, false_implies, true_and]
      refine p_lays10 (τ := s3 τ g10 g11 f12) (lg := lg) hO hU hm.1 hm.2.1 hlg hM.2.2.2.1 hM.2.2.1 hn1 (by omega) (fun g a1 a2 a3 => ?_) (fun g a1 => ?_)
      · rw [s3_10]
        have nm1 : ¬ nI (NS_ z b sp f n) = (-1 : Int32) := fun e => (nI_eqm1 (show NS_ z b sp f n < 2 ^ 31 by omega)).mp e
        have e00 : (s3 τ g g11 f12) 0 0 = nI u := hU.1
        have eqx : nI (f + n) = nI u ↔ f + n = u := nI_eq (by omega) (by omega)
        refine ⟨fun q => absurd q nm1, fun _ => ?_⟩
        rw [nI_add f n, e00, eqx]
        refine ⟨fun q => ⟨min 60 (u - (f + n)) + 1, ?_⟩, fun q => ⟨1, ?_⟩⟩
        · exact inner f n _ g hn1 (by omega) (by omega) a3 a1 a2 (min 60 (u - (f + n))) 1 g11 f12 (by omega) (by omega) h1 (fun g11 => nx g g11)
        · have cu : nI u ≤ nI (f + n) := by simp (disch := omega) only [nI_add, nI_eq, nI_leI, nI_ltI, pk_sub, pk_mul, nI_clamp, nI_eqm1, nI_lt0, vp_in_iffN]; omega
          have c0 : nI 0 < nI 1000000000 := by decide
          have e00' : nI (f + n) = nI u := by rw [q]
          unfold wpl_X11_weighs_58
          simp only [nm1, e00, nI_add f n, cu, c0, not_false_eq_true, not_true_eq_false, true_implies, false_implies, true_and, and_true, wp_X11_place, pk_mul, nI_add, wp_X11_lineStrain, e00', nI_clamp (show 61 * f + n < 2 ^ 31 by omega), cf]
          rw [s3_12]
          have := nx g g11
          rw [T2 f n hn1 q a3] at this
          exact ⟨fun _ => this, fun q => absurd (Int32.le_refl _) q⟩
      · rw [s3_10]
        refine ⟨fun _ => ⟨1, ?_⟩, fun q => absurd rfl q⟩
        have c0 : ¬ nI 1000000000 < nI 1000000000 := by decide
        unfold wpl_X11_weighs_58
        simp only [c0, not_false_eq_true, not_true_eq_false, true_implies, false_implies, true_and, and_true, wp_X11_place, pk_mul, nI_add, nI_clamp (show 61 * f + n < 2 ^ 31 by omega), cf]
        rw [s3_12]
        have := nx g g11
        rw [T1 f n hn1 (by omega) a1] at this
        exact this
  have key : ∀ d (g10 g11 f12 : Nat → Int32), d ≤ u → (∀ g m, d ≤ g → g < u → 1 ≤ m → m ≤ min 60 (u - g) → f12 (61 * g + m) = nI (T g m)) → wpl_X11_weighs_7 Q (d + 1) (s3 τ g10 g11 f12) (nI d - nI 1) := by
    intro d
    induction d with
    | zero =>
      intro g10 g11 f12 hd h1
      unfold wpl_X11_weighs_7
      exact ⟨fun _ => hQ g10 g11 f12 (fun g m hg => h1 g m (by omega) hg), fun q => absurd (by decide) q⟩
    | succ d ih =>
      intro g10 g11 f12 hd h1
      unfold wpl_X11_weighs_7
      rw [pk_sub (show 1 ≤ d + 1 by omega), Nat.add_sub_cancel]
      have c1 : ¬ nI d < nI 0 := by simp (disch := omega) only [nI_add, nI_eq, nI_leI, nI_ltI, pk_sub, pk_mul, nI_clamp, nI_eqm1, nI_lt0, vp_in_iffN]; omega
      simp only [c1, not_false_eq_true, true_implies, false_implies, true_and]
      exact ⟨min 60 (u - d) + 1, mid d _ (by omega) (min 60 (u - d)) 1 g10 g11 f12 (by omega) (by omega) (fun g m g1 g2 => h1 g m (by omega) g2) (fun j j1 j2 => by omega) (fun g10 g11 f12 ht => ih g10 g11 f12 (by omega) ht)⟩
  unfold wp_X11_weighs
  rw [hU.1]
  refine ⟨u + 1, ?_⟩
  have := key u (τ 10) (τ 11) (τ 12) (Nat.le_refl _) (fun g m g1 g2 => by omega)
  rw [s3_id] at this
  exact this
end WGS
