/-! the reference weighs the lines -/
theorem nr_ {x y : Int32} (h : x = nI 45 ∨ y = nI 45) (rv : Nat) (lk : Nat → Nat → Nat) : pl_ rv lk x y = 0 := by
  unfold pl_
  rcases h with h | h
  · subst h
    simp [show ¬ nI 45 = nI 32 by decide, show (nI 45 < nI 97 ∨ nI 122 < nI 45) by decide]
  · subst h
    simp [show ¬ nI 45 = nI 32 by decide, show (nI 45 < nI 97 ∨ nI 122 < nI 45) by decide]
/-- the strain of two rows -/
def pq_ (g h : Nat → Int32) (rv : Nat) (lk : Nat → Nat → Nat) : Nat → Nat
  | 0 => 0
  | n + 1 => pq_ g h rv lk n + pl_ rv lk (g n) (h n)
theorem pq_le {g h : Nat → Int32} {rv : Nat} {lk : Nat → Nat → Nat} (hrv : rv ≤ 1000) (hlk : ∀ a b, a < 26 → b < 26 → lk a b ≤ 1000) : ∀ n, pq_ g h rv lk n ≤ 1000 * n
  | 0 => Nat.le_refl 0
  | n + 1 => by
    have := pq_le (g := g) (h := h) hrv hlk n
    have := pl_le hrv hlk (g n) (h n)
    simp only [pq_]
    omega
theorem pq_ps {g h S : Nat → Int32} {rv : Nat} {lk : Nat → Nat → Nat} {p q : Nat} : ∀ {n : Nat}, (∀ i, i < n → g i = S (p + i)) → (∀ i, i < n → h i = S (q + i)) → pq_ g h rv lk n = ps_ S rv lk p q n
  | 0, _, _ => rfl
  | n + 1, h1, h2 => by
    simp only [pq_, ps_]
    rw [pq_ps (fun i hi => h1 i (by omega)) (fun i hi => h2 i (by omega)), h1 n (by omega), h2 n (by omega)]
/-- with the - at the ends -/
theorem pq_min {g h S : Nat → Int32} {rv : Nat} {lk : Nat → Nat → Nat} {p q B1 B2 j1 j2 : Nat} (h1 : ∀ i, i < B1 → g i = S (p + i)) (h2 : ∀ i, i < B2 → h i = S (q + i)) (hj1 : j1 ≤ 1) (hj2 : j2 ≤ 1) (e1 : j1 = 1 → g B1 = nI 45) (e2 : j2 = 1 → h B2 = nI 45) : pq_ g h rv lk (min (B1 + j1) (B2 + j2)) = ps_ S rv lk p q (min B1 B2) := by
  have base : pq_ g h rv lk (min B1 B2) = ps_ S rv lk p q (min B1 B2) := pq_ps (fun i hi => h1 i (by omega)) (fun i hi => h2 i (by omega))
  by_cases hm : min (B1 + j1) (B2 + j2) = min B1 B2
  · rw [hm, base]
  · have hs : min (B1 + j1) (B2 + j2) = min B1 B2 + 1 := by omega
    rw [hs]
    simp only [pq_]
    rw [base, nr_, Nat.add_zero]
    by_cases hb : B1 ≤ B2
    · left
      rw [show min B1 B2 = B1 by omega]
      exact e1 (by omega)
    · right
      rw [show min B1 B2 = B2 by omega]
      exact e2 (by omega)
section WGM
variable {u : Nat} {z : Nat → Nat} {b : Nat → Int32} {L : Nat → Nat → Int32} {lg sp sh ph inn ct rv : Nat} {lk : Nat → Nat → Nat}
theorem p_pairStrain {τ : St} {Q : Int32 → St → Prop} (hM : OkM lg sp sh ph inn ct rv lk) (hm : MM τ lg sp sh ph inn ct rv lk) {a c : Nat} (ha : a ≤ 61) (hc : c ≤ 61) (hQ : Q (nI (pq_ (τ 10) (τ 11) rv lk (min a c))) τ) : wp_X11_pairStrain τ (nI a) (nI c) Q := by
  obtain ⟨m1, m2, m3, m4, m5, m6, m7, m8⟩ := hm
  have key : ∀ d i, i + d = min a c → wpl_X11_pairStrain_5 (nI a) (nI c) Q (d + 1) τ (nI (pq_ (τ 10) (τ 11) rv lk i)) (nI i) := by
    intro d
    induction d with
    | zero =>
      intro i hi
      obtain rfl : i = min a c := by omega
      unfold wpl_X11_pairStrain_5
      refine ⟨fun _ => hQ, fun q => ⟨fun _ => hQ, fun q2 => ?_⟩⟩
      rw [nI_leI (by omega) (by omega)] at q q2
      omega
    | succ d ih =>
      intro i hi
      have nx := ih (i + 1) (by omega)
      simp only [pq_] at nx
      rw [← nI_add (pq_ (τ 10) (τ 11) rv lk i)] at nx
      have c1 : ¬ nI a ≤ nI i := by simp (disch := omega) only [nI_add, nI_eq, nI_leI, nI_ltI, pk_sub, pk_mul, nI_clamp, nI_eqm1, nI_lt0, vp_in_iffN]; omega
      have c2 : ¬ nI c ≤ nI i := by simp (disch := omega) only [nI_add, nI_eq, nI_leI, nI_ltI, pk_sub, pk_mul, nI_clamp, nI_eqm1, nI_lt0, vp_in_iffN]; omega
      have c3 : vp_in (nI i) 200 := by simp (disch := omega) only [nI_add, nI_eq, nI_leI, nI_ltI, pk_sub, pk_mul, nI_clamp, nI_eqm1, nI_lt0, vp_in_iffN]; omega
      unfold wpl_X11_pairStrain_5 wpj_X11_pairStrain_48
      simp only [c1, c2, c3, e_isLetM, nI_clamp (show i < 2 ^ 31 by omega), nI10, not_true_eq_false, not_false_eq_true, true_implies, false_implies, true_and, and_true, nI_add i 1, m7]
      generalize hx : τ 10 i = x at nx ⊢
      generalize hy : τ 11 i = y at nx ⊢
      have step : ∀ v : Int32, (¬ (x < nI 97 ∨ nI 122 < x) → ¬ (y < nI 97 ∨ nI 122 < y) → (vp_in (nI 26 * (x - nI 97) + y - nI 97) 676 ∧ wpl_X11_pairStrain_5 (nI a) (nI c) Q (d + 1) τ (v + τ 9 (nI 26 * (x - nI 97) + y - nI 97).toNatClampNeg) (nI (i + 1)))) → ((x < nI 97 ∨ nI 122 < x) ∨ (y < nI 97 ∨ nI 122 < y) → wpl_X11_pairStrain_5 (nI a) (nI c) Q (d + 1) τ v (nI (i + 1))) → (((x < nI 97 ∨ nI 122 < x) → wpl_X11_pairStrain_5 (nI a) (nI c) Q (d + 1) τ v (nI (i + 1))) ∧ (¬ (x < nI 97 ∨ nI 122 < x) → (((y < nI 97 ∨ nI 122 < y) → wpl_X11_pairStrain_5 (nI a) (nI c) Q (d + 1) τ v (nI (i + 1))) ∧ (¬ (y < nI 97 ∨ nI 122 < y) → (vp_in (nI 26 * (x - nI 97) + y - nI 97) 676 ∧ wpl_X11_pairStrain_5 (nI a) (nI c) Q (d + 1) τ (v + τ 9 (nI 26 * (x - nI 97) + y - nI 97).toNatClampNeg) (nI (i + 1))))))) := by
        intro v h1 h2
        exact ⟨fun q => h2 (Or.inl q), fun q => ⟨fun q2 => h2 (Or.inr q2), fun q2 => h1 q q2⟩⟩
      by_cases hb : x = nI 32 ∧ y = nI 32
      · obtain ⟨rfl, rfl⟩ := hb
        have e : pl_ rv lk (nI 32) (nI 32) = rv := by simp [pl_]
        rw [e] at nx
        simp only [not_true_eq_false, true_implies, false_implies, true_and, and_true]
        exact step _ (fun q => absurd (by decide) q) (fun _ => nx)
      · have fin : (((x < nI 97 ∨ nI 122 < x) → wpl_X11_pairStrain_5 (nI a) (nI c) Q (d + 1) τ (nI (pq_ (τ 10) (τ 11) rv lk i)) (nI (i + 1))) ∧ (¬ (x < nI 97 ∨ nI 122 < x) → (((y < nI 97 ∨ nI 122 < y) → wpl_X11_pairStrain_5 (nI a) (nI c) Q (d + 1) τ (nI (pq_ (τ 10) (τ 11) rv lk i)) (nI (i + 1))) ∧ (¬ (y < nI 97 ∨ nI 122 < y) → (vp_in (nI 26 * (x - nI 97) + y - nI 97) 676 ∧ wpl_X11_pairStrain_5 (nI a) (nI c) Q (d + 1) τ (nI (pq_ (τ 10) (τ 11) rv lk i) + τ 9 (nI 26 * (x - nI 97) + y - nI 97).toNatClampNeg) (nI (i + 1))))))) := by
          refine step _ (fun q q2 => ?_) (fun q => ?_)
          · have hx1 := letN q
            have hy1 := letN q2
            have e : pl_ rv lk x y = lk (x.toNatClampNeg - 97) (y.toNatClampNeg - 97) := by simp [pl_, hb, q, q2]
            rw [e] at nx
            generalize x.toNatClampNeg - 97 = A at hx1 nx
            generalize y.toNatClampNeg - 97 = B at hy1 nx
            obtain ⟨hA, rfl⟩ := hx1
            obtain ⟨hB, rfl⟩ := hy1
            have ei : nI 26 * (nI (A + 97) - nI 97) + nI (B + 97) - nI 97 = nI (26 * A + B) := by
              rw [pk_sub (show 97 ≤ A + 97 by omega), pk_mul, nI_add, pk_sub (by omega)]
              congr 1
            rw [ei, nI_clamp (show 26 * A + B < 2 ^ 31 by omega), m8 A B hA hB]
            exact ⟨by simp (disch := omega) only [nI_add, nI_eq, nI_leI, nI_ltI, pk_sub, pk_mul, nI_clamp, nI_eqm1, nI_lt0, vp_in_iffN]; omega, nx⟩
          · have e : pl_ rv lk x y = 0 := by
              unfold pl_
              rw [if_neg hb, if_neg (fun q2 => by rcases q with q | q; exact q2.1 q; exact q2.2 q)]
            rw [e, show nI (pq_ (τ 10) (τ 11) rv lk i) + nI 0 = nI (pq_ (τ 10) (τ 11) rv lk i) by rw [nI_add, Nat.add_zero]] at nx
            exact nx
        refine ⟨fun _ => fin, fun h32 => ⟨fun _ => fin, fun h32' => absurd ⟨h32, h32'⟩ hb⟩⟩
  exact ⟨min a c + 1, key (min a c) 0 (by omega)⟩
theorem e_most {τ : St} {Q : Int32 → St → Prop} (hu : u ≤ 80) (h0 : τ 0 0 = nI u) {f : Nat} (hf : f ≤ u) : wp_X11_most τ (nI f) Q = Q (nI (min 60 (u - f))) τ := by
  have e : nI 60 ≤ nI (u - f) ↔ 60 ≤ u - f := nI_leI (by decide) (by omega)
  simp only [wp_X11_most, h0, pk_sub hf, e]
  by_cases h : 60 ≤ u - f
  · simp only [h, not_true_eq_false, true_implies, false_implies, and_true]
    rw [show min 60 (u - f) = 60 by omega]
  · simp only [h, not_false_eq_true, true_implies, false_implies, true_and]
    rw [show min 60 (u - f) = u - f by omega]
theorem e_lineStrain {τ : St} {Q : Int32 → St → Prop} (hO : OkT u z b L) (hU : MU τ u z b L) (hm : MM τ lg sp sh ph inn ct rv lk) {f n : Nat} (hn : 1 ≤ n) (hf : f + n < u) (hfit : NS_ z b sp f n ≤ lg) : wp_X11_lineStrain τ (nI f) (nI n) (nI (NS_ z b sp f n)) Q = Q (nI (ls_ z b lg sp sh ph inn ct f n)) τ := by
  have hu := hO.1
  obtain ⟨m1, m2, m3, m4, m5, m6, m7, m8⟩ := hm
  have c1 : ¬ nI (f + n) = nI u := nIc (by omega) (by omega) (by omega)
  have c2 : vp_in (nI (f + n - 1)) 80 := by simp (disch := omega) only [nI_add, nI_eq, nI_leI, nI_ltI, pk_sub, pk_mul, nI_clamp, nI_eqm1, nI_lt0, vp_in_iffN]; omega
  have e3 : τ 3 (f + n - 1) = b (f + n - 1) := (hU.2 _ (by omega)).2.1
  simp only [wp_X11_lineStrain, nI_add, hU.1, c1, pk_sub (show 1 ≤ f + n by omega), c2, nI_clamp (show f + n - 1 < 2 ^ 31 by omega), e3, m1, m3, m4, m5, m6, pk_sub hfit, pk_mul, not_true_eq_false, not_false_eq_true, true_implies, false_implies, true_and, and_true]
  unfold ls_ eb_
  generalize b (f + n - 1) = c
  by_cases h46 : c = nI 46
  · simp [h46]
  · by_cases h44 : c = nI 44
    · simp [h44, show ¬ nI 44 = nI 46 by decide]
    · by_cases h47 : c = nI 47
      · simp [h47, show ¬ nI 47 = nI 46 by decide, show ¬ nI 47 = nI 44 by decide]
      · by_cases h45 : c = nI 45
        · simp [h45, show ¬ nI 45 = nI 46 by decide, show ¬ nI 45 = nI 44 by decide, show ¬ nI 45 = nI 47 by decide]
        · simp [h44, h45, h46, h47]
theorem p_costOf {τ : St} {Q : Int32 → St → Prop} (hO : OkT u z b L) (hM : OkM lg sp sh ph inn ct rv lk) (hU : MU τ u z b L) (hm : MM τ lg sp sh ph inn ct rv lk) {f n m t : Nat} (hn : 1 ≤ n) (hm1 : 1 ≤ m) (hfu : f + n + m ≤ u) (hm60 : m ≤ 60) (ht : τ 12 (61 * (f + n) + m) = nI t) (ht2 : t ≤ 1000000000) (htf : t < 1000000000 → NS_ z b sp (f + n) m ≤ lg) (hfit : NS_ z b sp f n ≤ lg)
    (g1 : ∀ i, i < B_ z b sp f n → τ 10 i = sg_ z b L sp u (bg_ z b sp f + i)) (g2 : b (f + n - 1) = nI 45 → τ 10 (B_ z b sp f n) = nI 45)
    (hQ : ∀ g : Nat → Int32, Q (nI (if t < 1000000000 then pr_ z b (sg_ z b L sp u) sp rv lk f n m + t else 1000000000)) (upA τ 11 g)) : wp_X11_costOf τ (nI f) (nI n) (nI m) (nI (NS_ z b sp f n)) Q := by
  have hu := hO.1
  have hlg := hM.2.1
  have c1 : vp_in (nI (61 * (f + n) + m)) 4941 := by simp (disch := omega) only [nI_add, nI_eq, nI_leI, nI_ltI, pk_sub, pk_mul, nI_clamp, nI_eqm1, nI_lt0, vp_in_iffN]; omega
  have e1 : nI t < nI 1000000000 ↔ t < 1000000000 := nI_ltI (by omega) (by decide)
  unfold wp_X11_costOf wp_X11_place
  simp only [nI_add f n, pk_mul, nI_add, c1, nI_clamp (show 61 * (f + n) + m < 2 ^ 31 by omega), ht, e1, true_and]
  refine ⟨fun hl => ?_, fun hl => ?_⟩
  · rw [if_pos hl] at hQ
    have hfit2 := htf hl
    refine p_lays11 (lg := lg) hO hU hm.1 hm.2.1 hlg hM.2.2.2.1 hM.2.2.1 hm1 hfu (fun g a1 a2 a3 => ?_) (fun g a1 => absurd hfit2 a1)
    have nm1 : ¬ nI (NS_ z b sp (f + n) m) = (-1 : Int32) := fun e => (nI_eqm1 (show NS_ z b sp (f + n) m < 2 ^ 31 by omega)).mp e
    simp only [nm1, not_true_eq_false, not_false_eq_true, true_implies, false_implies, true_and, and_true]
    refine p_pairStrain (τ := upA τ 11 g) hM hm (by omega) (by omega) ?_
    have e12 : (upA τ 11 g) 12 (61 * (f + n) + m) = nI t := ht
    rw [e12, nI_add]
    have ep : pq_ ((upA τ 11 g) 10) ((upA τ 11 g) 11) rv lk (min (NS_ z b sp f n) (NS_ z b sp (f + n) m)) = pr_ z b (sg_ z b L sp u) sp rv lk f n m := by
      unfold NS_ pr_
      refine pq_min (S := sg_ z b L sp u) (p := bg_ z b sp f) (q := bg_ z b sp (f + n)) (B1 := B_ z b sp f n) (B2 := B_ z b sp (f + n) m) g1 a1 (jt_le _ _) (jt_le _ _) (fun h => g2 ?_) (fun h => a2 ?_)
      · unfold jt_ at h; split at h
        · assumption
        · omega
      · unfold jt_ at h; split at h
        · assumption
        · omega
    rw [ep]
    exact hQ g
  · rw [if_neg hl] at hQ
    have := hQ (τ 11)
    have e : upA τ 11 (τ 11) = τ := by
      funext c
      by_cases h : c = 11
      · subst h; rw [upA_same]
      · rw [upA_ne h]
    rw [e] at this
    exact this
end WGM
