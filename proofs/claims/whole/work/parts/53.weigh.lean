/-! the class weighs the lines -/
theorem pl28_kd {rv : Nat} {lk : Nat → Nat → Nat} (x y : Int32) : pl28 rv lk (kd_ x) (kd_ y) = pl_ rv lk x y := by
  unfold pl28 pl_ kd_
  by_cases hx : (x < nI 97 ∨ nI 122 < x)
  · by_cases hx2 : x = nI 32
    · by_cases hy : (y < nI 97 ∨ nI 122 < y)
      · by_cases hy2 : y = nI 32
        · simp [hx, hy, hx2, hy2, show (nI 32 < nI 97 ∨ nI 122 < nI 32) by decide]
        · simp [hx, hy, hx2, hy2, show (nI 32 < nI 97 ∨ nI 122 < nI 32) by decide]
      · have := (letN hy).1
        have hy2 : ¬ y = nI 32 := fun e => hy (by rw [e]; decide)
        simp [hx, hy, hx2, hy2, show (nI 32 < nI 97 ∨ nI 122 < nI 32) by decide]
        omega
    · by_cases hy : (y < nI 97 ∨ nI 122 < y)
      · simp [hx, hx2]
      · simp [hx, hx2]
  · have h1 := (letN hx).1
    have hx2 : ¬ x = nI 32 := fun e => hx (by rw [e]; decide)
    by_cases hy : (y < nI 97 ∨ nI 122 < y)
    · by_cases hy2 : y = nI 32
      · simp [hx, hy, hx2, hy2, show (nI 32 < nI 97 ∨ nI 122 < nI 32) by decide]
        omega
      · simp [hx, hy, hx2, hy2]
    · have h2 := (letN hy).1
      have hy2 : ¬ y = nI 32 := fun e => hy (by rw [e]; decide)
      simp [hx, hy, hx2, hy2, h1, h2]
      omega
theorem ps_mono {S : Nat → Int32} {rv : Nat} {lk : Nat → Nat → Nat} {p q i j : Nat} (h : i ≤ j) : ps_ S rv lk p q i ≤ ps_ S rv lk p q j := by
  induction j with
  | zero => rw [show i = 0 by omega]; exact Nat.le_refl _
  | succ j ih =>
    by_cases hi : i = j + 1
    · subst hi; exact Nat.le_refl _
    · have := ih (by omega)
      simp only [ps_]
      omega
/-- what the class's setting works with -/
def CW_ (σ : St) (u : Nat) (z : Nat → Nat) (b : Nat → Int32) (L : Nat → Nat → Int32) (lg sp sh ph inn ct rv : Nat) (lk : Nat → Nat → Nat) : Prop := Strip σ u z b L sp ∧ CM σ lg sp sh ph inn ct rv lk
section WGH
variable {u : Nat} {z : Nat → Nat} {b : Nat → Int32} {L : Nat → Nat → Int32} {lg sp sh ph inn ct rv : Nat} {lk : Nat → Nat → Nat}
theorem p_places {σ : St} {Q : Int32 → St → Prop} (hO : OkT u z b L) (hM : OkM lg sp sh ph inn ct rv lk) (hW : CW_ σ u z b L lg sp sh ph inn ct rv lk) {p q i0 e : Nat} (hu : 0 < u) (hpq : p ≤ q) (hi : i0 ≤ e) (he : q + e ≤ en_ z b sp (u - 1)) (hQ : Q (nI (ps_ (sg_ z b L sp u) rv lk p q e - ps_ (sg_ z b L sp u) rv lk p q i0)) σ) : wp_X6_strainOfPlaces_12 σ (nI p) (nI q) (nI i0) (nI e) Q := by
  obtain ⟨⟨w1, ⟨w2, w3⟩, w4⟩, m1, m2, m3, m4, m5, m6, m7⟩ := hW
  rw [if_neg (by omega)] at w2 w3
  have hen := en_bound (b := b) (fun j hj => (hO.2 j hj).2.1) hM.2.2.2.1 hO.1 (show u - 1 < u by omega)
  have key : ∀ d i, i + d = e → i0 ≤ i → wpl_X6_strainOfPlaces_12_6 (nI p) (nI q) (nI i0) (nI e) Q (d + 1) σ (nI (ps_ (sg_ z b L sp u) rv lk p q i - ps_ (sg_ z b L sp u) rv lk p q i0)) (nI i) := by
    intro d
    induction d with
    | zero =>
      intro i h1 h2
      obtain rfl : i = e := by omega
      unfold wpl_X6_strainOfPlaces_12_6
      exact ⟨fun _ => hQ, fun c => absurd (Int32.le_refl _) c⟩
    | succ d ih =>
      intro i h1 h2
      unfold wpl_X6_strainOfPlaces_12_6
      have c1 : ¬ nI e ≤ nI i := by simp (disch := omega) only [nI_add, nI_eq, nI_leI, nI_ltI, pk_sub, pk_mul, nI_clamp, nI_eqm1, nI_lt0, vp_in_iffN]; omega
      have c2 : ¬ nI (en_ z b sp (u - 1)) ≤ nI (q + i) := by simp (disch := omega) only [nI_add, nI_eq, nI_leI, nI_ltI, pk_sub, pk_mul, nI_clamp, nI_eqm1, nI_lt0, vp_in_iffN]; omega
      have c3 : vp_in (nI (p + i)) 1920 := by simp (disch := omega) only [nI_add, nI_eq, nI_leI, nI_ltI, pk_sub, pk_mul, nI_clamp, nI_eqm1, nI_lt0, vp_in_iffN]; omega
      have c4 : vp_in (nI (q + i)) 1920 := by simp (disch := omega) only [nI_add, nI_eq, nI_leI, nI_ltI, pk_sub, pk_mul, nI_clamp, nI_eqm1, nI_lt0, vp_in_iffN]; omega
      have k1 := kd_lt (sg_ z b L sp u (p + i))
      have k2 := kd_lt (sg_ z b L sp u (q + i))
      have c5 : vp_in (nI (kd_ (sg_ z b L sp u (p + i)) * 28 + kd_ (sg_ z b L sp u (q + i)))) 784 := by simp (disch := omega) only [nI_add, nI_eq, nI_leI, nI_ltI, pk_sub, pk_mul, nI_clamp, nI_eqm1, nI_lt0, vp_in_iffN]; omega
      simp only [w2, c1, nI_add, c2, c3, c4, not_false_eq_true, true_implies, false_implies, true_and, nI_clamp (show p + i < 2 ^ 31 by omega), nI_clamp (show q + i < 2 ^ 31 by omega), (w3 (p + i) (by omega)).2, (w3 (q + i) (by omega)).2, wp_X1_strainOfPlace, wp_X1_pair, pk_mul, c5, nI_clamp (show kd_ (sg_ z b L sp u (p + i)) * 28 + kd_ (sg_ z b L sp u (q + i)) < 2 ^ 31 by omega)]
      rw [Nat.mul_comm, m7 _ _ k1 k2, pl28_kd, nI_add]
      have := ih (i + 1) (by omega) (by omega)
      have hm := ps_mono (S := sg_ z b L sp u) (rv := rv) (lk := lk) (p := p) (q := q) h2
      simp only [ps_] at this
      rw [show ps_ (sg_ z b L sp u) rv lk p q i - ps_ (sg_ z b L sp u) rv lk p q i0 + pl_ rv lk (sg_ z b L sp u (p + i)) (sg_ z b L sp u (q + i)) = ps_ (sg_ z b L sp u) rv lk p q i + pl_ rv lk (sg_ z b L sp u (p + i)) (sg_ z b L sp u (q + i)) - ps_ (sg_ z b L sp u) rv lk p q i0 by omega]
      exact this
  refine ⟨e - i0 + 1, ?_⟩
  have := key (e - i0) i0 (by omega) (Nat.le_refl _)
  rw [Nat.sub_self] at this
  exact this
/-- the rows most and least hold what they should of line beginnings from g on -/
def Tab (σ : St) (u : Nat) (z : Nat → Nat) (b : Nat → Int32) (L : Nat → Nat → Int32) (lg sp sh ph inn ct rv : Nat) (lk : Nat → Nat → Nat) (g : Nat) : Prop :=
  σ 24 g = nI (mx_ u z b sp lg g) ∧ ∀ m, 1 ≤ m → m ≤ mx_ u z b sp lg g → σ 25 (60 * g + m - 1) = nI (Vf_ u z b (sg_ z b L sp u) lg sp sh ph inn ct rv lk g m)
theorem B0 (f : Nat) : B_ z b sp f 0 = 0 ∨ f = 0 := by
  rcases Nat.eq_zero_or_pos f with h | h
  · exact Or.inr h
  · left
    unfold B_
    have := en_le_bg (z := z) (b := b) (sp := sp) (show f - 1 < f by omega)
    rw [Nat.add_zero]
    omega
/-- the signs of the first m units of a line -/
def E_ (z : Nat → Nat) (b : Nat → Int32) (sp w g m : Nat) : Nat := if m = 0 then 0 else min w (B_ z b sp g m)
theorem E_mono {w g m : Nat} (hm : E_ z b sp w g m ≤ E_ z b sp w g (m + 1)) : E_ z b sp w g m ≤ E_ z b sp w g (m + 1) := hm
theorem B_mono {f n : Nat} (hn : 1 ≤ n) : B_ z b sp f n ≤ B_ z b sp f (n + 1) := by rw [B_step hn]; omega
theorem p_leastBelow {σ : St} {Q : Int32 → St → Prop} (hO : OkT u z b L) (hM : OkM lg sp sh ph inn ct rv lk) (hW : CW_ σ u z b L lg sp sh ph inn ct rv lk) {a w g : Nat} (hag : a ≤ g) (hg : g < u) (hw : w ≤ 60) (hT : Tab σ u z b L lg sp sh ph inn ct rv lk g)
    (hQ : ∀ G : Nat → Nat, (∀ m, G m = ps_ (sg_ z b L sp u) rv lk (bg_ z b sp a) (bg_ z b sp g) (min w (B_ z b sp g m)) + Vf_ u z b (sg_ z b L sp u) lg sp sh ph inn ct rv lk g m) → Q (nI (bm_ G (mx_ u z b sp lg g)).1) (up2 σ 23 4 (nI (bm_ G (mx_ u z b sp lg g)).2))) : wp_X4_leastBelow σ (nI a) (nI w) (nI g) Q := by
  have hu := hO.1
  have hz1 : ∀ k, k < u → 1 ≤ z k := fun j hj => (hO.2 j hj).1
  have hsp := hM.2.2.2.1
  obtain ⟨⟨w1, w2, w4⟩, mm⟩ := id hW
  obtain ⟨t1, t2⟩ := hT
  have mxlg := mx_le_lg (b := b) (lg := lg) hz1 hM.2.2.1 (show g ≤ u by omega)
  have mxu := mx_le (z := z) (b := b) (sp := sp) (lg := lg) (show g ≤ u by omega)
  have hlg := hM.2.1
  have hab := bg_mono (z := z) (b := b) (sp := sp) hag
  -- the bounds of the numbers
  have hV : ∀ m, 1 ≤ m → m ≤ mx_ u z b sp lg g → Vf_ u z b (sg_ z b L sp u) lg sp sh ph inn ct rv lk g m ≤ 34400000 := by
    intro m m1 m2
    have := V_le (S := sg_ z b L sp u) hz1 hM.2.2.1 hlg hM.2.2.2.2.1 hM.2.2.2.2.2.1 hM.2.2.2.2.2.2.1 hM.2.2.2.2.2.2.2.1 hM.2.2.2.2.2.2.2.2.1 hM.2.2.2.2.2.2.2.2.2 u g m (by omega) (mx_fit hz1 hM.2.2.1 (by omega) m1 m2)
    unfold Vf_
    omega
  have hps : ∀ n, n ≤ 60 → ps_ (sg_ z b L sp u) rv lk (bg_ z b sp a) (bg_ z b sp g) n ≤ 60000 := by
    intro n hn
    have := ps_le (S := sg_ z b L sp u) (p := bg_ z b sp a) (q := bg_ z b sp g) hM.2.2.2.2.2.2.2.2.1 hM.2.2.2.2.2.2.2.2.2 n
    omega
  generalize hG : (fun m => ps_ (sg_ z b L sp u) rv lk (bg_ z b sp a) (bg_ z b sp g) (min w (B_ z b sp g m)) + Vf_ u z b (sg_ z b L sp u) lg sp sh ph inn ct rv lk g m) = G
  have hGe : ∀ m, G m = ps_ (sg_ z b L sp u) rv lk (bg_ z b sp a) (bg_ z b sp g) (min w (B_ z b sp g m)) + Vf_ u z b (sg_ z b L sp u) lg sp sh ph inn ct rv lk g m := fun m => by rw [← hG]
  have hGb : ∀ m, 1 ≤ m → m ≤ mx_ u z b sp lg g → G m ≤ 35000000 := by
    intro m m1 m2
    rw [hGe]
    have := hV m m1 m2
    have := hps (min w (B_ z b sp g m)) (by omega)
    omega
  have key : ∀ d m, m + d = mx_ u z b sp lg g → wpl_X4_leastBelow_51 (nI a) (nI w) (nI g) (nI (bg_ z b sp a)) (nI (bg_ z b sp g)) Q (d + 1) (up2 σ 23 4 (nI (bm_ G m).2)) (nI (bm_ G m).1) (nI (E_ z b sp w g m)) (nI (ps_ (sg_ z b L sp u) rv lk (bg_ z b sp a) (bg_ z b sp g) (E_ z b sp w g m))) (nI (m + 1)) := by
    intro d
    induction d with
    | zero =>
      intro m hm
      obtain rfl : m = mx_ u z b sp lg g := by omega
      unfold wpl_X4_leastBelow_51
      have c1 : vp_in (nI g) 80 := by simp (disch := omega) only [nI_add, nI_eq, nI_leI, nI_ltI, pk_sub, pk_mul, nI_clamp, nI_eqm1, nI_lt0, vp_in_iffN]; omega
      refine ⟨c1, fun _ => hQ G hGe, fun c => absurd ?_ c⟩
      rw [nI_clamp (show g < 2 ^ 31 by omega)]
      show σ 24 g < _
      rw [t1]
      simp (disch := omega) only [nI_add, nI_eq, nI_leI, nI_ltI, pk_sub, pk_mul, nI_clamp, nI_eqm1, nI_lt0, vp_in_iffN]
      omega
    | succ d ih =>
      intro m hm
      unfold wpl_X4_leastBelow_51
      have c1 : vp_in (nI g) 80 := by simp (disch := omega) only [nI_add, nI_eq, nI_leI, nI_ltI, pk_sub, pk_mul, nI_clamp, nI_eqm1, nI_lt0, vp_in_iffN]; omega
      have e24 : (up2 σ 23 4 (nI (bm_ G m).2)) 24 g = nI (mx_ u z b sp lg g) := t1
      have c2 : ¬ nI (mx_ u z b sp lg g) < nI (m + 1) := by simp (disch := omega) only [nI_add, nI_eq, nI_leI, nI_ltI, pk_sub, pk_mul, nI_clamp, nI_eqm1, nI_lt0, vp_in_iffN]; omega
      have b1 : (bm_ G m).1 ≤ 35000000 := bm_le m (fun j j1 j2 => hGb j j1 (by omega))
      have b2 : (bm_ G m).2 ≤ m := by
        rcases Nat.eq_zero_or_pos m with q | q
        · subst q; exact Nat.le_refl _
        · exact (bm_spec G m q).2.1
      have fitm := mx_fit (z := z) (b := b) (lg := lg) hz1 hM.2.2.1 (show g ≤ u by omega) (show 1 ≤ m + 1 by omega) (show m + 1 ≤ _ by omega)
      have hBm : B_ z b sp g (m + 1) ≤ 60 := by unfold NS_ at fitm; omega
      have eE : E_ z b sp w g (m + 1) = min w (B_ z b sp g (m + 1)) := by unfold E_; rw [if_neg (by omega)]
      have hE0 : E_ z b sp w g m ≤ E_ z b sp w g (m + 1) := by
        rw [eE]
        unfold E_
        split
        · omega
        · have := B_mono (z := z) (b := b) (sp := sp) (f := g) (show 1 ≤ m by omega)
          omega
      have henu : bg_ z b sp g + B_ z b sp g (m + 1) ≤ en_ z b sp (u - 1) := by
        unfold B_
        have q1 := bg_mono (z := z) (b := b) (sp := sp) (show g ≤ g + (m + 1) - 1 by omega)
        have q2 := bg_le_en z b sp (g + (m + 1) - 1)
        have q3 := en_mono (z := z) (b := b) (sp := sp) (show g + (m + 1) - 1 ≤ u - 1 by omega)
        omega
      have W' : CW_ (up2 σ 23 4 (nI (bm_ G m).2)) u z b L lg sp sh ph inn ct rv lk := hW
      have hp1 : (up2 σ 23 4 (nI (bm_ G m).2)) 18 g = nI (bg_ z b sp g) := (w4 g hg).1
      have hq1 : (up2 σ 23 4 (nI (bm_ G m).2)) 19 (g + (m + 1) - 1) = nI (en_ z b sp (g + (m + 1) - 1)) := (w4 _ (by omega)).2.1
      simp only [c1, nI_clamp (show g < 2 ^ 31 by omega), e24, c2, not_false_eq_true, true_implies, false_implies, true_and]
      rw [e_body (σ := up2 σ 23 4 (nI (bm_ G m).2)) (su := u) w1 hu (by omega) (by omega) hp1 hq1 (Nat.le_trans (bg_mono (by omega)) (bg_le_en z b sp _))]
      have emin : (if nI (en_ z b sp (g + (m + 1) - 1) - bg_ z b sp g) < nI w then nI (en_ z b sp (g + (m + 1) - 1) - bg_ z b sp g) else nI w) = nI (E_ z b sp w g (m + 1)) := by
        have eb : en_ z b sp (g + (m + 1) - 1) - bg_ z b sp g = B_ z b sp g (m + 1) := rfl
        have el : nI (B_ z b sp g (m + 1)) < nI w ↔ B_ z b sp g (m + 1) < w := nI_ltI (by omega) (by omega)
        rw [eb, eE]
        by_cases h : B_ z b sp g (m + 1) < w
        · rw [if_pos (el.mpr h)]; congr 1; omega
        · rw [if_neg (fun q => h (el.mp q))]; congr 1; omega
      rw [emin]
      refine p_places hO hM W' (by omega) hab hE0 (by rw [eE]; omega) ?_
      have c3 : vp_in (nI (g * 60 + (m + 1) - 1)) 4800 := by simp (disch := omega) only [nI_add, nI_eq, nI_leI, nI_ltI, pk_sub, pk_mul, nI_clamp, nI_eqm1, nI_lt0, vp_in_iffN]; omega
      have e25 : (up2 σ 23 4 (nI (bm_ G m).2)) 25 (g * 60 + (m + 1) - 1) = nI (Vf_ u z b (sg_ z b L sp u) lg sp sh ph inn ct rv lk g (m + 1)) := by
        show σ 25 _ = _
        rw [Nat.mul_comm]
        exact t2 (m + 1) (by omega) (by omega)
      have e23 : (up2 σ 23 4 (nI (bm_ G m).2)) 23 4 = nI (bm_ G m).2 := rfl
      have hmono := ps_mono (S := sg_ z b L sp u) (rv := rv) (lk := lk) (p := bg_ z b sp a) (q := bg_ z b sp g) hE0
      have esum : nI (ps_ (sg_ z b L sp u) rv lk (bg_ z b sp a) (bg_ z b sp g) (E_ z b sp w g m)) + nI (ps_ (sg_ z b L sp u) rv lk (bg_ z b sp a) (bg_ z b sp g) (E_ z b sp w g (m + 1)) - ps_ (sg_ z b L sp u) rv lk (bg_ z b sp a) (bg_ z b sp g) (E_ z b sp w g m)) = nI (ps_ (sg_ z b L sp u) rv lk (bg_ z b sp a) (bg_ z b sp g) (E_ z b sp w g (m + 1))) := by
        rw [nI_add]; congr 1; omega
      have eG : nI (ps_ (sg_ z b L sp u) rv lk (bg_ z b sp a) (bg_ z b sp g) (E_ z b sp w g (m + 1))) + nI (Vf_ u z b (sg_ z b L sp u) lg sp sh ph inn ct rv lk g (m + 1)) = nI (G (m + 1)) := by
        rw [nI_add, hGe, eE]
      simp only [wp_X4_place, pk_mul, nI_add g]
      rw [nI_add (g * 60) (m + 1), pk_sub (show 1 ≤ g * 60 + (m + 1) by omega), nI_clamp (show g * 60 + (m + 1) - 1 < 2 ^ 31 by omega), e25, e23, esum, eG]
      have e0 : nI (bm_ G m).2 = nI 0 ↔ (bm_ G m).2 = 0 := nI_eq (by omega) (by decide)
      have elt : nI (bm_ G m).1 < nI (G (m + 1)) ↔ (bm_ G m).1 < G (m + 1) := nI_ltI (by omega) (by have := hGb (m + 1) (by omega) (by omega); omega)
      rw [e0, elt, up2_up2, nI_add (m + 1) 1]
      have hb1 : bm_ G (m + 1) = if (bm_ G m).2 = 0 ∨ G (m + 1) ≤ (bm_ G m).1 then (G (m + 1), m + 1) else bm_ G m := rfl
      have nx := ih (m + 1) (by omega)
      refine ⟨c3, fun q => ?_, fun q => ⟨fun q2 => ?_, fun q2 => ?_⟩⟩
      · rw [hb1, if_pos (Or.inl q)] at nx
        exact nx
      · rw [hb1, if_neg (by omega)] at nx
        exact nx
      · rw [hb1, if_pos (Or.inr (by omega))] at nx
        exact nx
  unfold wp_X4_leastBelow wp_X6_units
  have e15 : (up2 σ 23 4 (nI 0)) 15 5 = nI u := w1
  have c1 : nI g < nI u := by simp (disch := omega) only [nI_add, nI_eq, nI_leI, nI_ltI, pk_sub, pk_mul, nI_clamp, nI_eqm1, nI_lt0, vp_in_iffN]; omega
  simp only [e15, c1, not_true_eq_false, true_implies, false_implies, and_true]
  have bof : ∀ (k : Nat) (ρ : St) (Q2 : Int32 → St → Prop), k < u → ρ 15 5 = nI u → ρ 18 k = nI (bg_ z b sp k) → wp_X6_beginOf ρ (nI k) Q2 = Q2 (nI (bg_ z b sp k)) ρ := by
    intro k ρ Q2 hk h1 h2
    have c : vp_in (nI k) 80 := by simp (disch := omega) only [nI_add, nI_eq, nI_leI, nI_ltI, pk_sub, pk_mul, nI_clamp, nI_eqm1, nI_lt0, vp_in_iffN]; omega
    simp only [wp_X6_beginOf, e_holds h1 hu (Nat.le_refl 1) (show k + 1 ≤ u by omega), c, nI10, not_false_eq_true, true_implies, false_implies, true_and, nI_clamp (show k < 2 ^ 31 by omega), h2]
  rw [bof a _ _ (by omega) e15 (w4 a (by omega)).1, bof g _ _ hg e15 (w4 g hg).1]
  exact ⟨mx_ u z b sp lg g + 1, key (mx_ u z b sp lg g) 0 (by omega)⟩
theorem p_leastBelow_end {σ : St} {Q : Int32 → St → Prop} {x y : Int32} (hu : u ≤ 80) (h15 : σ 15 5 = nI u) {g : Nat} (hg : u ≤ g) (hg2 : g < 2 ^ 31) (hQ : Q (nI 0) (up2 σ 23 4 (nI 0))) : wp_X4_leastBelow σ x y (nI g) Q := by
  unfold wp_X4_leastBelow wp_X6_units
  have e15 : (up2 σ 23 4 (nI 0)) 15 5 = nI u := h15
  have c1 : ¬ nI g < nI u := by simp (disch := omega) only [nI_add, nI_eq, nI_leI, nI_ltI, pk_sub, pk_mul, nI_clamp, nI_eqm1, nI_lt0, vp_in_iffN]; omega
  simp only [e15, c1, not_false_eq_true, true_implies, false_implies, true_and]
  exact hQ
/-- the strain of a line by itself -/
theorem e_strainOfLine {σ : St} {Q : Int32 → St → Prop} (hC : CM σ lg sp sh ph inn ct rv lk) (hM : OkM lg sp sh ph inn ct rv lk) {n : Nat} {c : Int32} (hn : n ≤ lg) : wp_X1_strainOfLine σ (nI n) c Q = Q (nI ((lg - n) * (lg - n) * sh + eb_ ph inn ct c)) σ := by
  obtain ⟨m1, m2, m3, m4, m5, m6, m7⟩ := hC
  simp only [wp_X1_strainOfLine, wp_X1_strainOfEnd, m1, m3, m4, m5, m6, pk_sub hn, pk_mul, nI_add]
  unfold eb_
  by_cases h44 : c = nI 44
  · simp [h44, show ¬ nI 44 = nI 46 by decide]
  · by_cases h45 : c = nI 45
    · simp [h45, show ¬ nI 45 = nI 44 by decide, show ¬ nI 45 = nI 46 by decide, show ¬ nI 45 = nI 47 by decide]
    · by_cases h46 : c = nI 46
      · simp [h46, show ¬ nI 46 = nI 44 by decide, show ¬ nI 46 = nI 45 by decide]
      · by_cases h47 : c = nI 47
        · simp [h47, show ¬ nI 47 = nI 44 by decide, show ¬ nI 47 = nI 45 by decide, show ¬ nI 47 = nI 46 by decide]
        · simp [h44, h45, h46, h47]
theorem p_weigh {σ : St} {Q : Int32 → St → Prop} (hO : OkT u z b L) (hM : OkM lg sp sh ph inn ct rv lk) (hW : CW_ σ u z b L lg sp sh ph inn ct rv lk) {f n : Nat} (hn : 1 ≤ n) (hf : f + n ≤ u) (hfit : NS_ z b sp f n ≤ lg) (hT : f + n < u → Tab σ u z b L lg sp sh ph inn ct rv lk (f + n))
    (hQ : ∀ c, Q (nI (Vf_ u z b (sg_ z b L sp u) lg sp sh ph inn ct rv lk f n)) (up2 σ 23 4 c)) : wp_X4_weigh σ (nI f) (nI n) Q := by
  have hu := hO.1
  obtain ⟨⟨w1, w2, w4⟩, mm⟩ := id hW
  unfold wp_X4_weigh wp_X6_units
  rw [Vf_eq u z b (sg_ z b L sp u) lg sp sh ph inn ct rv lk hn] at hQ
  have e1 : nI (f + n) < nI u ↔ f + n < u := nI_ltI (by omega) (by omega)
  simp only [w1, nI_add, e1]
  refine ⟨fun hl => ?_, fun hl => ?_⟩
  · rw [if_pos hl] at hQ
    have hp := (w4 f (by omega)).1
    have hq := (w4 (f + n - 1) (by omega)).2.1
    have hb := (w4 (f + n - 1) (by omega)).2.2
    have hpq : bg_ z b sp f ≤ en_ z b sp (f + n - 1) := Nat.le_trans (bg_mono (by omega)) (bg_le_en z b sp _)
    rw [e_signsOf w1 hu hn hf hp hq hpq, e_behindLine w1 hu hn hf]
    have eN : en_ z b sp (f + n - 1) - bg_ z b sp f + (if σ 20 (f + n - 1) = nI 45 then 1 else 0) = NS_ z b sp f n := by
      rw [hb]; rfl
    rw [eN, hb, e_strainOfLine mm hM hfit, e_body w1 hu hn hf hp hq hpq]
    refine p_leastBelow hO hM hW (show f ≤ f + n by omega) hl (show en_ z b sp (f + n - 1) - bg_ z b sp f ≤ 60 by have := hM.2.1; unfold NS_ B_ at hfit; omega) (hT hl) (fun G hG => ?_)
    have eG : bm_ G (mx_ u z b sp lg (f + n)) = bm_ (fun m => pr_ z b (sg_ z b L sp u) sp rv lk f n m + Vf_ u z b (sg_ z b L sp u) lg sp sh ph inn ct rv lk (f + n) m) (mx_ u z b sp lg (f + n)) := bm_congr (fun j j1 j2 => hG j)
    rw [eG, nI_add]
    exact hQ _
  · rw [if_neg hl] at hQ
    have := hQ (σ 23 4)
    rw [up2_self rfl] at this
    exact this
end WGH
