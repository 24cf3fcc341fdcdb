/-! the class lays the row -/
def kd_ (x : Int32) : Nat := if ¬ (x < nI 97 ∨ nI 122 < x) then x.toNatClampNeg - 97 else if x = nI 32 then 26 else 27
theorem e_kindOf {σ : St} {x : Int32} {Q : Int32 → St → Prop} : wp_X1_kindOf σ x Q = Q (nI (kd_ x)) σ := by
  unfold kd_
  by_cases h : (x < nI 97 ∨ nI 122 < x)
  · simp only [wp_X1_kindOf, e_isLetC, h, not_true_eq_false, if_false, true_implies, false_implies, and_true, true_and]
    by_cases h2 : x = nI 32 <;> simp [h2]
  · obtain ⟨a, a1, a2, rfl⟩ := isLet h
    rw [e_kindL a1 a2]
    simp only [h, not_false_eq_true, if_true, nI_clamp (show a < 2 ^ 31 by omega)]
theorem kd_lt (x : Int32) : kd_ x < 28 := by
  unfold kd_
  split
  · rename_i h; have := (letN h).1; omega
  · split <;> omega
def Row (σ : St) (S : Nat → Int32) (p : Nat) : Prop := σ 15 6 = nI p ∧ ∀ q, q < p → σ 16 q = S q ∧ σ 17 q = nI (kd_ (S q))
theorem p_addSign {σ : St} {S : Nat → Int32} {p : Nat} {x : Int32} {Q : St → Prop} (hR : Row σ S p) (hp : p < 1920) (hx : x = S p) (hQ : ∀ σ' : St, Row σ' S (p + 1) → (∀ c, c ≠ 15 → c ≠ 16 → c ≠ 17 → σ' c = σ c) → σ' 15 5 = σ 15 5 → Q σ') : wp_X6_addSign σ x Q := by
  subst hx
  have c1 : ¬ nI 1920 ≤ nI p := by simp (disch := omega) only [nI_add, nI_eq, nI_leI, nI_ltI, pk_sub, pk_mul, nI_clamp, nI_eqm1, nI_lt0, vp_in_iffN]; omega
  have c2 : vp_in (nI p) 1920 := by simp (disch := omega) only [nI_add, nI_eq, nI_leI, nI_ltI, pk_sub, pk_mul, nI_clamp, nI_eqm1, nI_lt0, vp_in_iffN]; omega
  simp only [wp_X6_addSign, hR.1, c1, c2, e_kindOf, nI_clamp (show p < 2 ^ 31 by omega), not_false_eq_true, true_implies, false_implies, true_and]
  refine hQ _ ⟨?_, fun q hq => ?_⟩ (fun c h1 h2 h3 => by rw [up2_ne h1, up2_ne h3, up2_ne h2]) rfl
  · show σ 15 6 + nI 1 = _
    rw [hR.1, nI_add]
  · show upd (σ 16) p (S p) q = _ ∧ upd (σ 17) p (nI (kd_ (S p))) q = _
    by_cases h : q = p
    · subst h; rw [upd_same, upd_same]; exact ⟨rfl, rfl⟩
    · rw [upd_ne h, upd_ne h]; exact hR.2 q (by omega)
theorem p_addBlanks {σ : St} {S : Nat → Int32} {p s : Nat} {Q : St → Prop} (hR : Row σ S p) (hp : p + s ≤ 1920) (hs : s ≤ 3) (hS : ∀ q, p ≤ q → q < p + s → S q = nI 32) (hQ : ∀ σ' : St, Row σ' S (p + s) → (∀ c, c ≠ 15 → c ≠ 16 → c ≠ 17 → σ' c = σ c) → σ' 15 5 = σ 15 5 → Q σ') : wp_X6_addBlanks σ (nI s) Q := by
  have key : ∀ d i (σ' : St), i + d = s → Row σ' S (p + i) → (∀ c, c ≠ 15 → c ≠ 16 → c ≠ 17 → σ' c = σ c) → σ' 15 5 = σ 15 5 → wpl_X6_addBlanks_2 (nI s) Q (d + 1) σ' (nI i) := by
    intro d
    induction d with
    | zero =>
      intro i σ' hi a1 a2 a3
      obtain rfl : i = s := by omega
      unfold wpl_X6_addBlanks_2
      exact ⟨fun _ => hQ σ' a1 a2 a3, fun c => absurd (Int32.le_refl _) c⟩
    | succ d ih =>
      intro i σ' hi a1 a2 a3
      unfold wpl_X6_addBlanks_2
      have c1 : ¬ nI s ≤ nI i := by simp (disch := omega) only [nI_add, nI_eq, nI_leI, nI_ltI, pk_sub, pk_mul, nI_clamp, nI_eqm1, nI_lt0, vp_in_iffN]; omega
      simp only [c1, not_false_eq_true, true_implies, false_implies, true_and, nI_add]
      refine p_addSign a1 (by omega) (hS (p + i) (by omega) (by omega)).symm (fun σ'' b1 b2 b3 => ?_)
      exact ih (i + 1) σ'' (by omega) b1 (fun c h1 h2 h3 => by rw [b2 c h1 h2 h3, a2 c h1 h2 h3]) (by rw [b3, a3])
  exact ⟨s + 1, key s 0 σ (by omega) hR (fun _ _ _ _ => rfl) rfl⟩
theorem e_signs9 {σ : St} {u k : Nat} {z : Nat → Nat} {b : Nat → Int32} {L : Nat → Nat → Int32} {Q : Int32 → St → Prop} (hC : CU σ u z b L) (hu : u ≤ 80) (hk : k < u) : wp_X9_signs σ (nI k) Q = Q (nI (z k + sn_ b k)) σ := by
  obtain ⟨q1, q2, q3⟩ := hC.2 k hk
  have c : vp_in (nI k) 80 := by simp (disch := omega) only [nI_add, nI_eq, nI_leI, nI_ltI, pk_sub, pk_mul, nI_clamp, nI_eqm1, nI_lt0, vp_in_iffN]; omega
  simp only [wp_X9_signs, e_has9k hC.1 hu hk, c, nI10, not_true_eq_false, not_false_eq_true, true_implies, false_implies, and_true, true_and, nI_clamp (show k < 2 ^ 31 by omega), q1, q2, nI_add]
  unfold sn_
  by_cases h1 : b k = nI 44
  · simp [h1]
  · by_cases h2 : b k = nI 46 <;> simp [h1, h2]
theorem e_signAt9 {σ : St} {u k i : Nat} {z : Nat → Nat} {b : Nat → Int32} {L : Nat → Nat → Int32} {Q : Int32 → St → Prop} (hC : CU σ u z b L) (hu : u ≤ 80) (hk : k < u) (hz : z k ≤ 20) (hi : i ≤ z k) : wp_X9_signAt σ (nI k) (nI i) Q = if i < z k then Q (L k i) σ else Q (b k) σ := by
  obtain ⟨q1, q2, q3⟩ := hC.2 k hk
  have c : vp_in (nI k) 80 := by simp (disch := omega) only [nI_add, nI_eq, nI_leI, nI_ltI, pk_sub, pk_mul, nI_clamp, nI_eqm1, nI_lt0, vp_in_iffN]; omega
  have c1 : ¬ nI i < nI 0 := by simp (disch := omega) only [nI_add, nI_eq, nI_leI, nI_ltI, pk_sub, pk_mul, nI_clamp, nI_eqm1, nI_lt0, vp_in_iffN]; omega
  have c2 : nI i ≤ nI (z k) := by simp (disch := omega) only [nI_add, nI_eq, nI_leI, nI_ltI, pk_sub, pk_mul, nI_clamp, nI_eqm1, nI_lt0, vp_in_iffN]; omega
  simp only [wp_X9_signAt, e_has9k hC.1 hu hk, c, c1, nI10, not_true_eq_false, not_false_eq_true, true_implies, false_implies, and_true, true_and, nI_clamp (show k < 2 ^ 31 by omega), q1, q2, c2, pk_mul, nI_add]
  by_cases h : i < z k
  · have c3 : ¬ nI (z k) ≤ nI i := by simp (disch := omega) only [nI_add, nI_eq, nI_leI, nI_ltI, pk_sub, pk_mul, nI_clamp, nI_eqm1, nI_lt0, vp_in_iffN]; omega
    have c4 : vp_in (nI (k * 20 + i)) 1600 := by simp (disch := omega) only [nI_add, nI_eq, nI_leI, nI_ltI, pk_sub, pk_mul, nI_clamp, nI_eqm1, nI_lt0, vp_in_iffN]; omega
    simp only [h, if_true, c3, c4, not_false_eq_true, true_implies, false_implies, true_and, nI_clamp (show k * 20 + i < 2 ^ 31 by omega)]
    rw [Nat.mul_comm, q3 i h]
  · have c3 : nI (z k) ≤ nI i := by simp (disch := omega) only [nI_add, nI_eq, nI_leI, nI_ltI, pk_sub, pk_mul, nI_clamp, nI_eqm1, nI_lt0, vp_in_iffN]; omega
    simp only [h, if_false, c3, not_true_eq_false, true_implies, false_implies, and_true]
theorem CU.kept {σ σ' : St} {u : Nat} {z : Nat → Nat} {b : Nat → Int32} {L : Nat → Nat → Int32} (hC : CU σ u z b L) (h8 : σ' 8 = σ 8) (h9 : σ' 9 = σ 9) (h10 : σ' 10 = σ 10) (h11 : σ' 11 = σ 11) : CU σ' u z b L := by
  unfold CU
  rw [h8, h9, h10, h11]
  exact hC
theorem p_addUnit {σ : St} {u k : Nat} {z : Nat → Nat} {b : Nat → Int32} {L : Nat → Nat → Int32} {sp : Nat} {Q : St → Prop} (hO : OkT u z b L) (hC : CU σ u z b L) (hsp : sp ≤ 3) (hk : k < u) (hR : Row σ (sg_ z b L sp u) (bg_ z b sp k))
    (hQ : ∀ σ' : St, Row σ' (sg_ z b L sp u) (en_ z b sp k) → (∀ c, c ≠ 15 → c ≠ 16 → c ≠ 17 → c ≠ 18 → c ≠ 19 → c ≠ 20 → σ' c = σ c) → σ' 15 5 = σ 15 5 + nI 1 → σ' 18 = upd (σ 18) k (nI (bg_ z b sp k)) → σ' 19 = upd (σ 19) k (nI (en_ z b sp k)) → σ' 20 = upd (σ 20) k (b k) → Q σ') : wp_X6_addUnit_8 σ (nI k) Q := by
  have hu := hO.1
  obtain ⟨o1, o2, o3, o4⟩ := hO.2 k hk
  have hen := en_bound (b := b) (fun j hj => (hO.2 j hj).2.1) hsp hu hk
  have hz : ∀ k, k < u → z k ≤ 20 := fun j hj => (hO.2 j hj).2.1
  have hsn := sn_le b k
  have c : vp_in (nI k) 80 := by simp (disch := omega) only [nI_add, nI_eq, nI_leI, nI_ltI, pk_sub, pk_mul, nI_clamp, nI_eqm1, nI_lt0, vp_in_iffN]; omega
  have key : ∀ d i (σ' : St), i + d = z k + sn_ b k → Row σ' (sg_ z b L sp u) (bg_ z b sp k + i) → (∀ c, c ≠ 15 → c ≠ 16 → c ≠ 17 → σ' c = (up2 σ 18 k (nI (bg_ z b sp k))) c) → σ' 15 5 = σ 15 5 → wpl_X6_addUnit_8_19 (nI k) (nI (z k + sn_ b k)) Q (d + 1) σ' (nI i) := by
    intro d
    induction d with
    | zero =>
      intro i σ' hi a1 a2 a3
      obtain rfl : i = z k + sn_ b k := by omega
      have eE : bg_ z b sp k + (z k + sn_ b k) = en_ z b sp k := by unfold en_; omega
      rw [eE] at a1
      unfold wpl_X6_addUnit_8_19
      refine ⟨fun _ => ⟨c, ?_⟩, fun c => absurd (Int32.le_refl _) c⟩
      rw [nI_clamp (show k < 2 ^ 31 by omega), a1.1]
      have h83 : (up2 σ' 19 k (nI (en_ z b sp k))) 8 3 = nI u := by
        show σ' 8 3 = _
        rw [a2 8 (by decide) (by decide) (by decide)]; exact hC.1
      rw [e_behind9 h83 hu hk]
      refine ⟨c, ?_⟩
      have h11 : (up2 σ' 19 k (nI (en_ z b sp k))) 11 k = b k := by
        show σ' 11 k = _
        rw [a2 11 (by decide) (by decide) (by decide)]
        exact (hC.2 k hk).2.1
      rw [h11]
      have f18 : σ' 18 = upd (σ 18) k (nI (bg_ z b sp k)) := by rw [a2 18 (by decide) (by decide) (by decide)]; rfl
      have f19 : σ' 19 = σ 19 := by rw [a2 19 (by decide) (by decide) (by decide)]; rfl
      have f20 : σ' 20 = σ 20 := by rw [a2 20 (by decide) (by decide) (by decide)]; rfl
      refine hQ _ ⟨a1.1, a1.2⟩ (fun c h1 h2 h3 h4 h5 h6 => ?_) ?_ f18 ?_ ?_
      · rw [up2_ne h1, up2_ne h6, up2_ne h5, a2 c h1 h2 h3, up2_ne h4]
      · show σ' 15 5 + nI 1 = _
        rw [a3]
      · show upd (σ' 19) k _ = _
        rw [f19]
      · show upd (σ' 20) k _ = _
        rw [f20]
    | succ d ih =>
      intro i σ' hi a1 a2 a3
      have hC' : CU σ' u z b L := hC.kept (a2 8 (by decide) (by decide) (by decide)) (a2 9 (by decide) (by decide) (by decide)) (a2 10 (by decide) (by decide) (by decide)) (a2 11 (by decide) (by decide) (by decide))
      unfold wpl_X6_addUnit_8_19
      have c1 : ¬ nI (z k + sn_ b k) ≤ nI i := by simp (disch := omega) only [nI_add, nI_eq, nI_leI, nI_ltI, pk_sub, pk_mul, nI_clamp, nI_eqm1, nI_lt0, vp_in_iffN]; omega
      simp only [c1, not_false_eq_true, true_implies, false_implies, true_and, nI_add]
      rw [e_signAt9 hC' hu hk o2 (by omega)]
      have fin : ∀ x, x = sg_ z b L sp u (bg_ z b sp k + i) → wp_X6_addSign σ' x (fun σ9 => wpl_X6_addUnit_8_19 (nI k) (nI (z k + sn_ b k)) Q (d + 1) σ9 (nI (i + 1))) := by
        intro x hx
        refine p_addSign a1 (by unfold en_ at hen; omega) hx (fun σ'' b1 b2 b3 => ?_)
        exact ih (i + 1) σ'' (by omega) b1 (fun c h1 h2 h3 => by rw [b2 c h1 h2 h3, a2 c h1 h2 h3]) (by rw [b3, a3])
      by_cases h : i < z k
      · rw [if_pos h]
        exact fin _ (sg_letter hk h).symm
      · rw [if_neg h]
        obtain rfl : i = z k := by omega
        exact fin _ (sg_end hk (by omega)).symm
  unfold wp_X6_addUnit_8
  rw [nI_clamp (show k < 2 ^ 31 by omega), hR.1]
  refine ⟨c, ?_⟩
  have hC' : CU (up2 σ 18 k (nI (bg_ z b sp k))) u z b L := hC
  rw [e_signs9 hC' hu hk]
  exact ⟨z k + sn_ b k + 1, key (z k + sn_ b k) 0 _ (by omega) ⟨hR.1, hR.2⟩ (fun _ _ _ _ => rfl) rfl⟩
/-- the row of a whole text -/
def Strip (σ : St) (u : Nat) (z : Nat → Nat) (b : Nat → Int32) (L : Nat → Nat → Int32) (sp : Nat) : Prop :=
  σ 15 5 = nI u ∧ Row σ (sg_ z b L sp u) (if u = 0 then 0 else en_ z b sp (u - 1)) ∧ ∀ j, j < u → σ 18 j = nI (bg_ z b sp j) ∧ σ 19 j = nI (en_ z b sp j) ∧ σ 20 j = b j
theorem p_lay {σ : St} {u : Nat} {z : Nat → Nat} {b : Nat → Int32} {L : Nat → Nat → Int32} {sp : Nat} {Q : St → Prop} (hO : OkT u z b L) (hC : CU σ u z b L) (hsp : sp ≤ 3)
    (hQ : ∀ σ' : St, Strip σ' u z b L sp → (∀ c, c ≠ 15 → c ≠ 16 → c ≠ 17 → c ≠ 18 → c ≠ 19 → c ≠ 20 → σ' c = σ c) → Q σ') : wp_X6_lay_8 σ (nI sp) Q := by
  have hu := hO.1
  have hz : ∀ k, k < u → z k ≤ 20 := fun j hj => (hO.2 j hj).2.1
  have key : ∀ d k (σ' : St), k + d = u → σ' 15 5 = nI k → Row σ' (sg_ z b L sp u) (if k = 0 then 0 else en_ z b sp (k - 1)) → (∀ j, j < k → σ' 18 j = nI (bg_ z b sp j) ∧ σ' 19 j = nI (en_ z b sp j) ∧ σ' 20 j = b j) → (∀ c, c ≠ 15 → c ≠ 16 → c ≠ 17 → c ≠ 18 → c ≠ 19 → c ≠ 20 → σ' c = σ c) → wpl_X6_lay_8_12 (nI sp) Q (d + 1) σ' (nI k) := by
    intro d
    induction d with
    | zero =>
      intro k σ' hk a1 a2 a3 a4
      obtain rfl : k = u := by omega
      unfold wpl_X6_lay_8_12
      have e : σ' 8 3 = nI k := by rw [a4 8 (by decide) (by decide) (by decide) (by decide) (by decide) (by decide)]; exact hC.1
      unfold wp_X9_count_at8
      rw [e]
      exact ⟨fun _ => hQ σ' ⟨a1, a2, a3⟩ a4, fun c => absurd (Int32.le_refl _) c⟩
    | succ d ih =>
      intro k σ' hk a1 a2 a3 a4
      have hC' : CU σ' u z b L := hC.kept (a4 8 (by decide) (by decide) (by decide) (by decide) (by decide) (by decide)) (a4 9 (by decide) (by decide) (by decide) (by decide) (by decide) (by decide)) (a4 10 (by decide) (by decide) (by decide) (by decide) (by decide) (by decide)) (a4 11 (by decide) (by decide) (by decide) (by decide) (by decide) (by decide))
      have unit : ∀ σ2 : St, Row σ2 (sg_ z b L sp u) (bg_ z b sp k) → (∀ c, c ≠ 15 → c ≠ 16 → c ≠ 17 → σ2 c = σ' c) → σ2 15 5 = σ' 15 5 → wp_X6_addUnit_8 σ2 (nI k) (fun σ7 => wpl_X6_lay_8_12 (nI sp) Q (d + 1) σ7 (nI (k + 1))) := by
        intro σ2 r1 r2 r3
        have hC2 : CU σ2 u z b L := hC'.kept (r2 8 (by decide) (by decide) (by decide)) (r2 9 (by decide) (by decide) (by decide)) (r2 10 (by decide) (by decide) (by decide)) (r2 11 (by decide) (by decide) (by decide))
        refine p_addUnit hO hC2 hsp (by omega) r1 (fun σ3 b1 b2 b3 b4 b5 b6 => ?_)
        refine ih (k + 1) σ3 (by omega) (by rw [b3, r3, a1, nI_add]) ?_ (fun j hj => ?_) (fun c h1 h2 h3 h4 h5 h6 => by rw [b2 c h1 h2 h3 h4 h5 h6, r2 c h1 h2 h3, a4 c h1 h2 h3 h4 h5 h6])
        · rw [if_neg (by omega), Nat.add_sub_cancel]; exact b1
        · rw [b4, b5, b6, r2 18 (by decide) (by decide) (by decide), r2 19 (by decide) (by decide) (by decide), r2 20 (by decide) (by decide) (by decide)]
          by_cases hjk : j = k
          · subst hjk; rw [upd_same, upd_same, upd_same]; exact ⟨rfl, rfl, rfl⟩
          · rw [upd_ne hjk, upd_ne hjk, upd_ne hjk]; exact a3 j (by omega)
      unfold wpl_X6_lay_8_12 wp_X9_count_at8
      have c1 : ¬ nI u ≤ nI k := by simp (disch := omega) only [nI_add, nI_eq, nI_leI, nI_ltI, pk_sub, pk_mul, nI_clamp, nI_eqm1, nI_lt0, vp_in_iffN]; omega
      have c2 : ¬ nI 80 ≤ nI k := by simp (disch := omega) only [nI_add, nI_eq, nI_leI, nI_ltI, pk_sub, pk_mul, nI_clamp, nI_eqm1, nI_lt0, vp_in_iffN]; omega
      simp only [hC'.1, c1, c2, not_false_eq_true, true_implies, false_implies, true_and, nI_add]
      refine ⟨fun q => ?_, fun q => ?_⟩
      · rw [nI_leI (by omega) (by decide)] at q
        obtain rfl : k = 0 := by omega
        exact unit σ' a2 (fun _ _ _ _ => rfl) rfl
      · rw [nI_leI (by omega) (by decide)] at q
        rw [if_neg (by omega)] at a2
        obtain ⟨m, rfl⟩ : ∃ m, k = m + 1 := ⟨k - 1, by omega⟩
        rw [Nat.add_sub_cancel] at a2
        rw [pk_sub (show 1 ≤ m + 1 by omega), Nat.add_sub_cancel, e_goesOn9 hC'.1 hu (show m < u by omega)]
        have bm : σ' 11 m = b m := (hC'.2 m (by omega)).2.1
        simp only [bm, nI10, not_true_eq_false, not_false_eq_true, true_implies, false_implies, and_true, true_and]
        refine ⟨fun q2 => ?_, fun q2 => ?_⟩
        · have eb : bg_ z b sp (m + 1) = en_ z b sp m + sp := by rw [bg_succ]; simp [gp_, q2]
          have hbb := bg_bound (b := b) hz hsp (m + 1) (by omega)
          refine p_addBlanks a2 (by omega) hsp (fun p p1 p2 => sg_gap (k := m) p1 (by omega) u) (fun σ2 r1 r2 r3 => ?_)
          rw [← eb] at r1
          exact unit σ2 r1 r2 r3
        · have eb : bg_ z b sp (m + 1) = en_ z b sp m := by rw [bg_succ]; simp [gp_, q2]
          rw [← eb] at a2
          exact unit σ' a2 (fun _ _ _ _ => rfl) rfl
  exact ⟨u + 1, key u 0 _ (by omega) rfl ⟨rfl, fun q hq => by simp at hq⟩ (fun j hj => by omega) (fun c h1 _ _ _ _ _ => by rw [up2_ne h1, up2_ne h1])⟩
theorem p_fitAlone {σ : St} {u : Nat} {z : Nat → Nat} {b : Nat → Int32} {L : Nat → Nat → Int32} {lg sp : Nat} {Q : Int32 → St → Prop} (hO : OkT u z b L) (hC : CU σ u z b L) (hlg : lg ≤ 60) (h1 : (∀ k, k < u → NS_ z b sp k 1 ≤ lg) → Q (nI 1) σ) (h0 : (∃ k, k < u ∧ ¬ NS_ z b sp k 1 ≤ lg) → Q (nI 0) σ) : wp_X9_fitAlone σ (nI lg) Q := by
  have hu := hO.1
  have eN : ∀ k, NS_ z b sp k 1 = z k + sn_ b k + jt_ b k := by
    intro k
    unfold NS_ B_ en_
    rw [Nat.add_sub_cancel]
    omega
  have key : ∀ d k, k + d = u → (∀ j, j < k → NS_ z b sp j 1 ≤ lg) → wpl_X9_fitAlone_2 (nI lg) Q (d + 1) σ (nI k) := by
    intro d
    induction d with
    | zero =>
      intro k hk a1
      obtain rfl : k = u := by omega
      unfold wpl_X9_fitAlone_2
      rw [hC.1]
      exact ⟨fun _ => h1 a1, fun c => absurd (Int32.le_refl _) c⟩
    | succ d ih =>
      intro k hk a1
      obtain ⟨o1, o2, o3, o4⟩ := hO.2 k (by omega)
      have hs := sn_le b k
      unfold wpl_X9_fitAlone_2
      have c1 : ¬ nI u ≤ nI k := by simp (disch := omega) only [nI_add, nI_eq, nI_leI, nI_ltI, pk_sub, pk_mul, nI_clamp, nI_eqm1, nI_lt0, vp_in_iffN]; omega
      have bk : σ 11 k = b k := (hC.2 k (by omega)).2.1
      simp only [hC.1, c1, not_false_eq_true, true_implies, false_implies, true_and, nI_add, e_signs9 hC hu (show k < u by omega), e_goesOn9 hC.1 hu (show k < u by omega), bk]
      have nx : NS_ z b sp k 1 ≤ lg → wpl_X9_fitAlone_2 (nI lg) Q (d + 1) σ (nI (k + 1)) := fun hf => ih (k + 1) (by omega) (fun j hj => by
        by_cases hjk : j = k
        · subst hjk; exact hf
        · exact a1 j (by omega))
      have bad : ¬ NS_ z b sp k 1 ≤ lg → Q (nI 0) σ := fun hf => h0 ⟨k, by omega, hf⟩
      rw [eN] at nx bad
      simp only [nI10, not_true_eq_false, not_false_eq_true, true_implies, false_implies, and_true, true_and]
      rw [nI_leI (by omega) (by omega), nI_leI (by omega) (by omega)]
      refine ⟨fun q => ?_, fun q => ?_⟩
      · have ej : jt_ b k = 0 := by simp [jt_, q]
        rw [ej] at nx bad
        exact ⟨nx, bad⟩
      · have ej : jt_ b k = 1 := by simp [jt_, q]
        rw [ej] at nx bad
        exact ⟨nx, bad⟩
  exact ⟨u + 1, key u 0 (by omega) (fun j hj => by omega)⟩
