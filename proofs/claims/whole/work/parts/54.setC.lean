/-! the class's set() -/
theorem st25 {σ : St} {c : Int32} {f24 f25 : Nat → Int32} {c' : Int32} {i : Nat} {v : Int32} : up2 (up2 (upA (upA (up2 σ 23 4 c) 24 f24) 25 f25) 23 4 c') 25 i v = upA (upA (up2 σ 23 4 c') 24 f24) 25 (upd f25 i v) := by
  funext d
  by_cases h25 : d = 25
  · subst h25; rfl
  · by_cases h24 : d = 24
    · subst h24; rfl
    · by_cases h23 : d = 23
      · subst h23
        show upd (upd (σ 23) 4 c) 4 c' = upd (σ 23) 4 c'
        rw [upd_upd]
      · simp only [up2_ne h25, up2_ne h23, upA_ne h25, upA_ne h24]
theorem st24 {σ : St} {c : Int32} {f24 f25 : Nat → Int32} {i : Nat} {v : Int32} : up2 (upA (upA (up2 σ 23 4 c) 24 f24) 25 f25) 24 i v = upA (upA (up2 σ 23 4 c) 24 (upd f24 i v)) 25 f25 := by
  funext d
  by_cases h25 : d = 25
  · subst h25; rfl
  · by_cases h24 : d = 24
    · subst h24; rfl
    · simp only [up2_ne h24, upA_ne h25, upA_ne h24]
theorem st23id {σ : St} : upA (upA (up2 σ 23 4 (σ 23 4)) 24 (σ 24)) 25 (σ 25) = σ := by
  funext d
  by_cases h25 : d = 25
  · subst h25; rfl
  · by_cases h24 : d = 24
    · subst h24; rfl
    · simp only [upA_ne h25, upA_ne h24]
      rw [up2_self rfl]
section SETC
variable {u : Nat} {z : Nat → Nat} {b : Nat → Int32} {L : Nat → Nat → Int32} {lg sp sh ph inn ct rv : Nat} {lk : Nat → Nat → Nat}
theorem e_fits {σ : St} {Q : Int32 → St → Prop} (hO : OkT u z b L) (hsp : sp ≤ 3) (hW : CW_ σ u z b L lg sp sh ph inn ct rv lk) (hlg : lg ≤ 60) {f m : Nat} (hm : 1 ≤ m) (hf : f < u) (hm2 : m ≤ 80) : wp_X4_fits σ (nI f) (nI m) Q = if f + m ≤ u ∧ NS_ z b sp f m ≤ lg then Q (nI 1) σ else Q (nI 0) σ := by
  have hu := hO.1
  obtain ⟨⟨w1, w2, w4⟩, mm⟩ := id hW
  have e1 : nI u < nI (f + m) ↔ u < f + m := nI_ltI (by omega) (by omega)
  simp only [wp_X4_fits, wp_X6_units, w1, nI_add, e1]
  by_cases h : u < f + m
  · simp only [h, not_true_eq_false, true_implies, false_implies, and_true]
    rw [if_neg (by omega)]
  · simp only [h, not_false_eq_true, true_implies, false_implies, true_and]
    have hp := (w4 f hf).1
    have hq := (w4 (f + m - 1) (by omega)).2.1
    have hb := (w4 (f + m - 1) (by omega)).2.2
    have hpq : bg_ z b sp f ≤ en_ z b sp (f + m - 1) := Nat.le_trans (bg_mono (by omega)) (bg_le_en z b sp _)
    rw [e_signsOf w1 hu hm (by omega) hp hq hpq]
    have eN : en_ z b sp (f + m - 1) - bg_ z b sp f + (if σ 20 (f + m - 1) = nI 45 then 1 else 0) = NS_ z b sp f m := by
      rw [hb]; rfl
    have hNf : NS_ z b sp f m < 4000 := by
      have h1 := jt_le b (f + m - 1)
      have h2 := en_bound (b := b) (fun j hj => (hO.2 j hj).2.1) hsp hO.1 (show f + m - 1 < u by omega)
      unfold NS_ B_
      omega
    have e2 : nI lg < nI (NS_ z b sp f m) ↔ lg < NS_ z b sp f m := nI_ltI (by omega) (by omega)
    rw [eN]
    simp only [wp_X1_longest, mm.1, e2]
    by_cases h2 : lg < NS_ z b sp f m
    · rw [if_neg (by omega)]
      simp only [h2, not_true_eq_false, true_implies, false_implies, and_true]
    · rw [if_pos (by omega)]
      simp only [h2, not_false_eq_true, true_implies, false_implies, true_and]
/-- the rows, as functions -/
def TabF (f24 f25 : Nat → Int32) (u : Nat) (z : Nat → Nat) (b : Nat → Int32) (L : Nat → Nat → Int32) (lg sp sh ph inn ct rv : Nat) (lk : Nat → Nat → Nat) (g : Nat) : Prop :=
  f24 g = nI (mx_ u z b sp lg g) ∧ ∀ m, 1 ≤ m → m ≤ mx_ u z b sp lg g → f25 (60 * g + m - 1) = nI (Vf_ u z b (sg_ z b L sp u) lg sp sh ph inn ct rv lk g m)
theorem p_weighLines {σ : St} {Q : St → Prop} (hO : OkT u z b L) (hM : OkM lg sp sh ph inn ct rv lk) (hW : CW_ σ u z b L lg sp sh ph inn ct rv lk)
    (hQ : ∀ (c : Int32) (f24 f25 : Nat → Int32), (∀ g, g < u → TabF f24 f25 u z b L lg sp sh ph inn ct rv lk g) → Q (upA (upA (up2 σ 23 4 c) 24 f24) 25 f25)) : wp_X4_weighLines σ Q := by
  have hu := hO.1
  have hz1 : ∀ k, k < u → 1 ≤ z k := fun j hj => (hO.2 j hj).1
  have hlg := hM.2.1
  have inner : ∀ (f : Nat) (K : St → Int32 → Prop), f < u → ∀ d m (c : Int32) (f24 f25 : Nat → Int32), m + d = mx_ u z b sp lg f → (∀ g, f < g → g < u → TabF f24 f25 u z b L lg sp sh ph inn ct rv lk g) → (∀ j, 1 ≤ j → j ≤ m → f25 (60 * f + j - 1) = nI (Vf_ u z b (sg_ z b L sp u) lg sp sh ph inn ct rv lk f j)) → (∀ (c : Int32) (f24 f25 : Nat → Int32), (∀ g, f ≤ g → g < u → TabF f24 f25 u z b L lg sp sh ph inn ct rv lk g) → K (upA (upA (up2 σ 23 4 c) 24 f24) 25 f25) (nI f - nI 1)) → wpl_X4_weighLines_16 (nI f) K Q (d + 1) (upA (upA (up2 σ 23 4 c) 24 f24) 25 f25) (nI m) := by
    intro f K hf d
    have mxlg := mx_le_lg (b := b) (lg := lg) hz1 hM.2.2.1 (show f ≤ u by omega)
    have mxu := mx_le (z := z) (b := b) (sp := sp) (lg := lg) (show f ≤ u by omega)
    have c80 : vp_in (nI f) 80 := by simp (disch := omega) only [nI_add, nI_eq, nI_leI, nI_ltI, pk_sub, pk_mul, nI_clamp, nI_eqm1, nI_lt0, vp_in_iffN]; omega
    induction d with
    | zero =>
      intro m c f24 f25 hm h1 h2 hK
      obtain rfl : m = mx_ u z b sp lg f := by omega
      have W' : CW_ (upA (upA (up2 σ 23 4 c) 24 f24) 25 f25) u z b L lg sp sh ph inn ct rv lk := hW
      have done : K (up2 (upA (upA (up2 σ 23 4 c) 24 f24) 25 f25) 24 f (nI (mx_ u z b sp lg f))) (nI f - nI 1) := by
        rw [st24]
        refine hK _ _ _ (fun g g1 g2 => ?_)
        by_cases hgf : g = f
        · subst hgf
          exact ⟨upd_same, h2⟩
        · obtain ⟨t1, t2⟩ := h1 g (by omega) g2
          exact ⟨by rw [upd_ne hgf]; exact t1, t2⟩
      unfold wpl_X4_weighLines_16
      rw [nI_clamp (show f < 2 ^ 31 by omega)]
      refine ⟨fun _ => ⟨c80, done⟩, fun _ => ?_⟩
      rw [nI_add, e_fits hO hM.2.2.2.1 W' hlg (by omega) hf (by omega), if_neg (fun q => mx_out (Nat.lt_succ_self _) q.1 q.2)]
      simp only [not_true_eq_false, true_implies, false_implies, and_true]
      exact ⟨c80, done⟩
    | succ d ih =>
      intro m c f24 f25 hm h1 h2 hK
      have W' : CW_ (upA (upA (up2 σ 23 4 c) 24 f24) 25 f25) u z b L lg sp sh ph inn ct rv lk := hW
      have fitm := mx_fit (z := z) (b := b) (lg := lg) hz1 hM.2.2.1 (show f ≤ u by omega) (show 1 ≤ m + 1 by omega) (show m + 1 ≤ _ by omega)
      unfold wpl_X4_weighLines_16
      have c60 : ¬ nI 60 ≤ nI m := by simp (disch := omega) only [nI_add, nI_eq, nI_leI, nI_ltI, pk_sub, pk_mul, nI_clamp, nI_eqm1, nI_lt0, vp_in_iffN]; omega
      have c4800 : vp_in (nI (f * 60 + (m + 1) - 1)) 4800 := by simp (disch := omega) only [nI_add, nI_eq, nI_leI, nI_ltI, pk_sub, pk_mul, nI_clamp, nI_eqm1, nI_lt0, vp_in_iffN]; omega
      simp only [c60, not_false_eq_true, true_implies, false_implies, true_and, nI_add]
      rw [e_fits hO hM.2.2.2.1 W' hlg (by omega) hf (by omega), if_pos ⟨by omega, fitm⟩]
      simp only [nI10, not_false_eq_true, true_implies, false_implies, true_and, wp_X4_place, pk_mul, nI_add]
      rw [pk_sub (show 1 ≤ f * 60 + (m + 1) by omega), nI_clamp (show f * 60 + (m + 1) - 1 < 2 ^ 31 by omega)]
      refine p_weigh hO hM W' (by omega) (by omega) fitm (fun hl => h1 (f + (m + 1)) (by omega) hl) (fun c' => ⟨c4800, ?_⟩)
      rw [st25]
      refine ih (m + 1) c' f24 _ (by omega) (fun g g1 g2 => ?_) (fun j j1 j2 => ?_) hK
      · obtain ⟨t1, t2⟩ := h1 g g1 g2
        exact ⟨t1, fun q q1 q2 => by rw [upd_ne (by omega)]; exact t2 q q1 q2⟩
      · by_cases hj : j = m + 1
        · subst hj
          rw [Nat.mul_comm, upd_same]
        · rw [upd_ne (by omega)]
          exact h2 j j1 (by omega)
  have key : ∀ d (c : Int32) (f24 f25 : Nat → Int32), d ≤ u → (∀ g, d ≤ g → g < u → TabF f24 f25 u z b L lg sp sh ph inn ct rv lk g) → wpl_X4_weighLines_10 Q (d + 1) (upA (upA (up2 σ 23 4 c) 24 f24) 25 f25) (nI d - nI 1) := by
    intro d
    induction d with
    | zero =>
      intro c f24 f25 hd h1
      unfold wpl_X4_weighLines_10
      exact ⟨fun _ => hQ c f24 f25 (fun g hg => h1 g (by omega) hg), fun q => absurd (by decide) q⟩
    | succ d ih =>
      intro c f24 f25 hd h1
      unfold wpl_X4_weighLines_10
      rw [pk_sub (show 1 ≤ d + 1 by omega), Nat.add_sub_cancel]
      have c1 : ¬ nI d < nI 0 := by simp (disch := omega) only [nI_add, nI_eq, nI_leI, nI_ltI, pk_sub, pk_mul, nI_clamp, nI_eqm1, nI_lt0, vp_in_iffN]; omega
      simp only [c1, not_false_eq_true, true_implies, false_implies, true_and]
      exact ⟨mx_ u z b sp lg d + 1, inner d _ (by omega) (mx_ u z b sp lg d) 0 c f24 f25 (by omega) (fun g g1 g2 => h1 g (by omega) g2) (fun j j1 j2 => by omega) (fun c f24 f25 ht => ih c f24 f25 (by omega) ht)⟩
  unfold wp_X4_weighLines wp_X6_units
  obtain ⟨⟨w1, w2, w4⟩, mm⟩ := id hW
  rw [w1]
  refine ⟨u + 1, ?_⟩
  have := key u (σ 23 4) (σ 24) (σ 25) (Nat.le_refl _) (fun g g1 g2 => by omega)
  rw [st23id] at this
  exact this
end SETC
/-- the lines of THE SETTING, one after the other: (first unit, how many) -/
def ln_ (u : Nat) (z : Nat → Nat) (b : Nat → Int32) (S : Nat → Int32) (lg sp sh ph inn ct rv : Nat) (lk : Nat → Nat → Nat) : Nat → Nat × Nat
  | 0 => (0, (bm_ (fun m => Vf_ u z b S lg sp sh ph inn ct rv lk 0 m) (mx_ u z b sp lg 0)).2)
  | i + 1 => let q := ln_ u z b S lg sp sh ph inn ct rv lk i
    (q.1 + q.2, (bm_ (fun m => pr_ z b S sp rv lk q.1 q.2 m + Vf_ u z b S lg sp sh ph inn ct rv lk (q.1 + q.2) m) (mx_ u z b sp lg (q.1 + q.2))).2)
section LNS
variable {u : Nat} {z : Nat → Nat} {b : Nat → Int32} {S : Nat → Int32} {L : Nat → Nat → Int32} {lg sp sh ph inn ct rv : Nat} {lk : Nat → Nat → Nat}
theorem mx_self : mx_ u z b sp lg u = 0 := by
  unfold mx_
  rw [Nat.sub_self]
  rfl
theorem ln_aux (hfit : ∀ k, k < u → NS_ z b sp k 1 ≤ lg) (g : Nat → Nat) {f : Nat} (hf : f ≤ u) : (f < u → 1 ≤ (bm_ g (mx_ u z b sp lg f)).2 ∧ (bm_ g (mx_ u z b sp lg f)).2 ≤ mx_ u z b sp lg f) ∧ (f = u → (bm_ g (mx_ u z b sp lg f)).2 = 0) := by
  refine ⟨fun h => ?_, fun h => ?_⟩
  · obtain ⟨h1, h2, -⟩ := bm_spec g _ (mx_pos h (hfit f h))
    exact ⟨h1, h2⟩
  · subst h
    rw [mx_self]
    rfl
theorem ln_ok (hfit : ∀ k, k < u → NS_ z b sp k 1 ≤ lg) : ∀ i, (ln_ u z b S lg sp sh ph inn ct rv lk i).1 ≤ u ∧ ((ln_ u z b S lg sp sh ph inn ct rv lk i).1 < u → 1 ≤ (ln_ u z b S lg sp sh ph inn ct rv lk i).2 ∧ (ln_ u z b S lg sp sh ph inn ct rv lk i).2 ≤ mx_ u z b sp lg (ln_ u z b S lg sp sh ph inn ct rv lk i).1) ∧ ((ln_ u z b S lg sp sh ph inn ct rv lk i).1 = u → (ln_ u z b S lg sp sh ph inn ct rv lk i).2 = 0)
  | 0 => ⟨Nat.zero_le _, ln_aux hfit _ (Nat.zero_le _)⟩
  | i + 1 => by
    obtain ⟨h1, h2, h3⟩ := ln_ok hfit i
    have hle : (ln_ u z b S lg sp sh ph inn ct rv lk i).1 + (ln_ u z b S lg sp sh ph inn ct rv lk i).2 ≤ u := by
      rcases Nat.lt_or_ge (ln_ u z b S lg sp sh ph inn ct rv lk i).1 u with q | q
      · have := (h2 q).2
        have := mx_le (z := z) (b := b) (sp := sp) (lg := lg) h1
        omega
      · have := h3 (by omega)
        omega
    exact ⟨hle, ln_aux hfit _ hle⟩
/-- how many lines there are -/
theorem ln_count (hfit : ∀ k, k < u → NS_ z b sp k 1 ≤ lg) : ∃ nl, nl ≤ u ∧ (ln_ u z b S lg sp sh ph inn ct rv lk nl).1 = u ∧ ∀ i, i < nl → (ln_ u z b S lg sp sh ph inn ct rv lk i).1 < u := by
  have grow : ∀ i, i ≤ u → i ≤ (ln_ u z b S lg sp sh ph inn ct rv lk i).1 := by
    intro i
    induction i with
    | zero => intro _; exact Nat.zero_le _
    | succ i ih =>
      intro hi
      obtain ⟨h1, h2, h3⟩ := ln_ok (S := S) (sh := sh) (ph := ph) (inn := inn) (ct := ct) (rv := rv) (lk := lk) hfit i
      have q := ih (by omega)
      show i + 1 ≤ (ln_ u z b S lg sp sh ph inn ct rv lk i).1 + (ln_ u z b S lg sp sh ph inn ct rv lk i).2
      rcases Nat.lt_or_ge (ln_ u z b S lg sp sh ph inn ct rv lk i).1 u with q2 | q2
      · have := (h2 q2).1
        omega
      · omega
  obtain ⟨nl, n1, n2⟩ := pk_least (fun i => u ≤ (ln_ u z b S lg sp sh ph inn ct rv lk i).1) ⟨u, grow u (Nat.le_refl _)⟩
  refine ⟨nl, ?_, ?_, fun i hi => by have := n2 i hi; omega⟩
  · rcases Nat.lt_or_ge u nl with q | q
    · exact absurd (grow u (Nat.le_refl _)) (n2 u q)
    · exact q
  · have := (ln_ok (S := S) (sh := sh) (ph := ph) (inn := inn) (ct := ct) (rv := rv) (lk := lk) hfit nl).1
    omega
theorem ln_part {nl : Nat} (hl : (ln_ u z b S lg sp sh ph inn ct rv lk nl).1 = u) : Part u nl (fun i => (ln_ u z b S lg sp sh ph inn ct rv lk i).1) (fun i => (ln_ u z b S lg sp sh ph inn ct rv lk i).2) := by
  refine ⟨fun h => ?_, fun h => ⟨rfl, ?_⟩, fun k _ => rfl⟩
  · subst h
    exact hl.symm
  · obtain ⟨m, rfl⟩ : ∃ m, nl = m + 1 := ⟨nl - 1, by omega⟩
    exact hl
theorem st14 {ρ : St} {c v : Int32} {f21 f22 : Nat → Int32} {i : Nat} {x y w : Int32} : up2 (up2 (up2 (upA (upA (up2 (up2 ρ 23 4 c) 14 3 v) 21 f21) 22 f22) 21 i x) 22 i y) 14 3 w = upA (upA (up2 (up2 ρ 23 4 c) 14 3 w) 21 (upd f21 i x)) 22 (upd f22 i y) := by
  funext d
  by_cases h22 : d = 22
  · subst h22; rfl
  · by_cases h21 : d = 21
    · subst h21; rfl
    · by_cases h14 : d = 14
      · subst h14
        show upd (upd (ρ 14) 3 v) 3 w = upd (ρ 14) 3 w
        rw [upd_upd]
      · simp only [up2_ne h14, up2_ne h22, up2_ne h21, upA_ne h22, upA_ne h21]
theorem st14c {ρ : St} {c v c' : Int32} {f21 f22 : Nat → Int32} : up2 (upA (upA (up2 (up2 ρ 23 4 c) 14 3 v) 21 f21) 22 f22) 23 4 c' = upA (upA (up2 (up2 ρ 23 4 c') 14 3 v) 21 f21) 22 f22 := by
  funext d
  by_cases h22 : d = 22
  · subst h22; rfl
  · by_cases h21 : d = 21
    · subst h21; rfl
    · by_cases h23 : d = 23
      · subst h23
        show upd (upd (ρ 23) 4 c) 4 c' = upd (ρ 23) 4 c'
        rw [upd_upd]
      · by_cases h14 : d = 14
        · subst h14; rfl
        · simp only [up2_ne h14, up2_ne h23, upA_ne h22, upA_ne h21]
theorem st14id {ρ : St} {c : Int32} (h : ρ 14 3 = nI 0) : upA (upA (up2 (up2 ρ 23 4 c) 14 3 (nI 0)) 21 (ρ 21)) 22 (ρ 22) = up2 ρ 23 4 c := by
  funext d
  by_cases h22 : d = 22
  · subst h22; rfl
  · by_cases h21 : d = 21
    · subst h21; rfl
    · simp only [upA_ne h22, upA_ne h21]
      rw [up2_self (σ := up2 ρ 23 4 c) (show (up2 ρ 23 4 c) 14 3 = nI 0 from h)]
theorem p_putLines {ρ : St} {Q : Int32 → St → Prop} (hO : OkT u z b L) (hM : OkM lg sp sh ph inn ct rv lk) (hW : CW_ ρ u z b L lg sp sh ph inn ct rv lk) (hT : ∀ g, g < u → Tab ρ u z b L lg sp sh ph inn ct rv lk g) (h14 : ρ 14 3 = nI 0) (hfit : ∀ k, k < u → NS_ z b sp k 1 ≤ lg) {nl : Nat} (hnl : nl ≤ u) (hl : (ln_ u z b (sg_ z b L sp u) lg sp sh ph inn ct rv lk nl).1 = u) (hl2 : ∀ i, i < nl → (ln_ u z b (sg_ z b L sp u) lg sp sh ph inn ct rv lk i).1 < u)
    (hQ : ∀ (c : Int32) (f21 f22 : Nat → Int32), (∀ i, i < nl → f21 i = nI (ln_ u z b (sg_ z b L sp u) lg sp sh ph inn ct rv lk i).1 ∧ f22 i = nI (ln_ u z b (sg_ z b L sp u) lg sp sh ph inn ct rv lk i).2) → Q (nI (bm_ (fun m => Vf_ u z b (sg_ z b L sp u) lg sp sh ph inn ct rv lk 0 m) (mx_ u z b sp lg 0)).1) (upA (upA (up2 (up2 ρ 23 4 c) 14 3 (nI nl)) 21 f21) 22 f22)) : wp_X4_putLines_14 ρ Q := by
  have hu := hO.1
  have hz1 : ∀ k, k < u → 1 ≤ z k := fun j hj => (hO.2 j hj).1
  have hlg := hM.2.1
  obtain ⟨⟨w1, w2, w4⟩, mm⟩ := id hW
  have key : ∀ d k (f21 f22 : Nat → Int32), k + d = nl → (∀ i, i < k → f21 i = nI (ln_ u z b (sg_ z b L sp u) lg sp sh ph inn ct rv lk i).1 ∧ f22 i = nI (ln_ u z b (sg_ z b L sp u) lg sp sh ph inn ct rv lk i).2) → wpl_X4_putLines_14_13 (nI (bm_ (fun m => Vf_ u z b (sg_ z b L sp u) lg sp sh ph inn ct rv lk 0 m) (mx_ u z b sp lg 0)).1) Q (d + 1) (upA (upA (up2 (up2 ρ 23 4 (nI (ln_ u z b (sg_ z b L sp u) lg sp sh ph inn ct rv lk k).2)) 14 3 (nI k)) 21 f21) 22 f22) (nI (ln_ u z b (sg_ z b L sp u) lg sp sh ph inn ct rv lk k).1) (nI k) := by
    intro d
    induction d with
    | zero =>
      intro k f21 f22 hk h1
      obtain rfl : k = nl := by omega
      unfold wpl_X4_putLines_14_13 wp_X6_units
      have e15 : (upA (upA (up2 (up2 ρ 23 4 (nI (ln_ u z b (sg_ z b L sp u) lg sp sh ph inn ct rv lk k).2)) 14 3 (nI k)) 21 f21) 22 f22) 15 5 = nI u := w1
      rw [hl, e15]
      exact ⟨fun _ => hQ _ f21 f22 h1, fun _ => ⟨fun _ => hQ _ f21 f22 h1, fun c => absurd (Int32.le_refl _) c⟩⟩
    | succ d ih =>
      intro k f21 f22 hk h1
      have hku := hl2 k (by omega)
      obtain ⟨o1, o2, -⟩ := ln_ok (S := sg_ z b L sp u) (sh := sh) (ph := ph) (inn := inn) (ct := ct) (rv := rv) (lk := lk) hfit k
      have p2 := (o2 hku).1
      have p3 := (o2 hku).2
      clear o2
      have nx := ih (k + 1)
      have en : ln_ u z b (sg_ z b L sp u) lg sp sh ph inn ct rv lk (k + 1) = ((ln_ u z b (sg_ z b L sp u) lg sp sh ph inn ct rv lk k).1 + (ln_ u z b (sg_ z b L sp u) lg sp sh ph inn ct rv lk k).2, (bm_ (fun m => pr_ z b (sg_ z b L sp u) sp rv lk (ln_ u z b (sg_ z b L sp u) lg sp sh ph inn ct rv lk k).1 (ln_ u z b (sg_ z b L sp u) lg sp sh ph inn ct rv lk k).2 m + Vf_ u z b (sg_ z b L sp u) lg sp sh ph inn ct rv lk ((ln_ u z b (sg_ z b L sp u) lg sp sh ph inn ct rv lk k).1 + (ln_ u z b (sg_ z b L sp u) lg sp sh ph inn ct rv lk k).2) m) (mx_ u z b sp lg ((ln_ u z b (sg_ z b L sp u) lg sp sh ph inn ct rv lk k).1 + (ln_ u z b (sg_ z b L sp u) lg sp sh ph inn ct rv lk k).2))).2) := rfl
      rw [en] at nx
      generalize hF : (ln_ u z b (sg_ z b L sp u) lg sp sh ph inn ct rv lk k).1 = F at *
      generalize hN : (ln_ u z b (sg_ z b L sp u) lg sp sh ph inn ct rv lk k).2 = N at *
      have mxu := mx_le (z := z) (b := b) (sp := sp) (lg := lg) (show F ≤ u by omega)
      have fitN := mx_fit (z := z) (b := b) (lg := lg) hz1 hM.2.2.1 o1 p2 p3
      unfold wpl_X4_putLines_14_13 wp_X6_units
      have e15 : (upA (upA (up2 (up2 ρ 23 4 (nI N)) 14 3 (nI k)) 21 f21) 22 f22) 15 5 = nI u := w1
      have e23 : (upA (upA (up2 (up2 ρ 23 4 (nI N)) 14 3 (nI k)) 21 f21) 22 f22) 23 4 = nI N := rfl
      have e14 : (upA (upA (up2 (up2 ρ 23 4 (nI N)) 14 3 (nI k)) 21 f21) 22 f22) 14 3 = nI k := rfl
      have c80 : ¬ nI 80 ≤ nI k := by simp (disch := omega) only [nI_add, nI_eq, nI_leI, nI_ltI, pk_sub, pk_mul, nI_clamp, nI_eqm1, nI_lt0, vp_in_iffN]; omega
      have cu : ¬ nI u ≤ nI F := by simp (disch := omega) only [nI_add, nI_eq, nI_leI, nI_ltI, pk_sub, pk_mul, nI_clamp, nI_eqm1, nI_lt0, vp_in_iffN]; omega
      have ck : vp_in (nI k) 80 := by simp (disch := omega) only [nI_add, nI_eq, nI_leI, nI_ltI, pk_sub, pk_mul, nI_clamp, nI_eqm1, nI_lt0, vp_in_iffN]; omega
      simp only [e15, e23, c80, cu, not_false_eq_true, true_implies, false_implies, true_and, wp_X5_addLine, e14, ck, nI_clamp (show k < 2 ^ 31 by omega), nI_add]
      rw [st14]
      have hp := (w4 F hku).1
      have hq := (w4 (F + N - 1) (by omega)).2.1
      have hpq : bg_ z b sp F ≤ en_ z b sp (F + N - 1) := Nat.le_trans (bg_mono (by omega)) (bg_le_en z b sp _)
      rw [e_body (σ := upA (upA (up2 (up2 ρ 23 4 (nI N)) 14 3 (nI (k + 1))) 21 (upd f21 k (nI F))) 22 (upd f22 k (nI N))) (su := u) (p := bg_ z b sp F) (q := en_ z b sp (F + N - 1)) w1 hu p2 (by omega) hp hq hpq]
      have rows : ∀ i, i < k + 1 → (upd f21 k (nI F)) i = nI (ln_ u z b (sg_ z b L sp u) lg sp sh ph inn ct rv lk i).1 ∧ (upd f22 k (nI N)) i = nI (ln_ u z b (sg_ z b L sp u) lg sp sh ph inn ct rv lk i).2 := by
        intro i hi
        by_cases hik : i = k
        · subst hik; rw [upd_same, upd_same, hF, hN]; exact ⟨rfl, rfl⟩
        · rw [upd_ne hik, upd_ne hik]; exact h1 i (by omega)
      rcases Nat.lt_or_ge (F + N) u with hlt | hge
      · refine p_leastBelow (σ := upA (upA (up2 (up2 ρ 23 4 (nI N)) 14 3 (nI (k + 1))) 21 (upd f21 k (nI F))) 22 (upd f22 k (nI N))) (L := L) (sh := sh) (ph := ph) (inn := inn) (ct := ct) hO hM hW (show F ≤ F + N by omega) hlt (show en_ z b sp (F + N - 1) - bg_ z b sp F ≤ 60 by unfold NS_ B_ at fitN; omega) (hT (F + N) hlt) (fun G hG => ?_)
        have eG : bm_ G (mx_ u z b sp lg (F + N)) = bm_ (fun m => pr_ z b (sg_ z b L sp u) sp rv lk F N m + Vf_ u z b (sg_ z b L sp u) lg sp sh ph inn ct rv lk (F + N) m) (mx_ u z b sp lg (F + N)) := bm_congr (fun j j1 j2 => hG j)
        rw [eG, st14c]
        exact nx _ _ (by omega) rows
      · refine p_leastBelow_end (σ := upA (upA (up2 (up2 ρ 23 4 (nI N)) 14 3 (nI (k + 1))) 21 (upd f21 k (nI F))) 22 (upd f22 k (nI N))) (u := u) hu w1 hge (by omega) ?_
        rw [st14c]
        have hFN : F + N = u := by omega
        have := nx (upd f21 k (nI F)) (upd f22 k (nI N)) (by omega) rows
        rw [hFN, mx_self] at this
        rw [hFN]
        exact this
  unfold wp_X4_putLines_14
  rcases Nat.eq_zero_or_pos u with h0 | h0
  · subst h0
    refine p_leastBelow_end (u := 0) (by omega) w1 (Nat.le_refl _) (by omega) ?_
    have := key nl 0 (ρ 21) (ρ 22) (by omega) (fun i hi => by omega)
    have e1 : (ln_ 0 z b (sg_ z b L sp 0) lg sp sh ph inn ct rv lk 0).2 = 0 := by
      show (bm_ (fun m => Vf_ 0 z b (sg_ z b L sp 0) lg sp sh ph inn ct rv lk 0 m) (mx_ 0 z b sp lg 0)).2 = 0
      rw [mx_self]; rfl
    have e2 : (bm_ (fun m => Vf_ 0 z b (sg_ z b L sp 0) lg sp sh ph inn ct rv lk 0 m) (mx_ 0 z b sp lg 0)).1 = 0 := by
      rw [mx_self]; rfl
    rw [e1, e2, st14id h14] at this
    exact ⟨_, this⟩
  · refine p_leastBelow (L := L) (sh := sh) (ph := ph) (inn := inn) (ct := ct) hO hM hW (Nat.le_refl 0) h0 (by omega) (hT 0 h0) (fun G hG => ?_)
    have eG : bm_ G (mx_ u z b sp lg 0) = bm_ (fun m => Vf_ u z b (sg_ z b L sp u) lg sp sh ph inn ct rv lk 0 m) (mx_ u z b sp lg 0) := bm_congr (fun j j1 j2 => by rw [hG j, Nat.zero_min]; simp [ps_])
    rw [eG]
    have := key nl 0 (ρ 21) (ρ 22) (by omega) (fun i hi => by omega)
    have e1 : (ln_ u z b (sg_ z b L sp u) lg sp sh ph inn ct rv lk 0) = (0, (bm_ (fun m => Vf_ u z b (sg_ z b L sp u) lg sp sh ph inn ct rv lk 0 m) (mx_ u z b sp lg 0)).2) := rfl
    rw [e1, st14id h14] at this
    exact ⟨_, this⟩
end LNS
