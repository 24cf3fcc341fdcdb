/-! the reference lays a line (twice: into its row 10 and its row 11) -/
theorem upA_10 {τ : St} {g : Nat → Int32} {i : Nat} {v : Int32} : up2 (upA τ 10 g) 10 i v = upA τ 10 (upd g i v) := by
  rw [up2_eq, upA_same, upA_upA]
section LAY10
variable {u : Nat} {z : Nat → Nat} {b : Nat → Int32} {L : Nat → Nat → Int32} {lg sp : Nat}
theorem lays_unit10 {τ : St} {K : St → Int32 → Int32 → Prop} {Q : Int32 → St → Prop} (hO : OkT u z b L) (hU : MU τ u z b L) (h13 : τ 0 13 = nI lg) (hlg : lg ≤ 60) {f n k : Nat} (hf : f ≤ k) (hk : k < f + n) (hfu : f + n ≤ u) (ha : bg_ z b sp k - bg_ z b sp f ≤ 63)
    (hK : ∀ g : Nat → Int32, (∀ i, i < en_ z b sp k - bg_ z b sp f → g i = sg_ z b L sp u (bg_ z b sp f + i)) → (k = f + n - 1 → b k = nI 45 → g (en_ z b sp k - bg_ z b sp f) = nI 45) → en_ z b sp k - bg_ z b sp f + (if k = f + n - 1 then jt_ b k else 0) ≤ lg → K (upA τ 10 g) (nI (en_ z b sp k - bg_ z b sp f + (if k = f + n - 1 then jt_ b k else 0))) (nI (k + 1)))
    (hN : ∀ g : Nat → Int32, ¬ en_ z b sp k - bg_ z b sp f + (if k = f + n - 1 then jt_ b k else 0) ≤ lg → Q (-1) (upA τ 10 g)) :
    ∀ d i (g : Nat → Int32), i + d = z k → (∀ j, j < bg_ z b sp k - bg_ z b sp f + i → g j = sg_ z b L sp u (bg_ z b sp f + j)) → wpl_X11_lays_10_64 (nI f) (nI n) (nI k) K Q (d + 1) (upA τ 10 g) (nI (bg_ z b sp k - bg_ z b sp f + i)) (nI i) := by
  have hu := hO.1
  obtain ⟨o1, o2, o3, o4⟩ := hO.2 k (by omega)
  obtain ⟨q1, q2, q3, q4⟩ := hU.2 k (by omega)
  have hFk := bg_mono (z := z) (b := b) (sp := sp) hf
  have c80 : vp_in (nI k) 80 := by simp (disch := omega) only [nI_add, nI_eq, nI_leI, nI_ltI, pk_sub, pk_mul, nI_clamp, nI_eqm1, nI_lt0, vp_in_iffN]; omega
  intro d
  induction d with
  | zero =>
    intro i g hi hg
    obtain rfl : i = z k := by omega
    have e1 : (upA τ 10 g) 1 k = nI (z k) := q1
    have e3 : (upA τ 10 g) 3 k = b k := q2
    have e13 : (upA τ 10 g) 0 13 = nI lg := h13
    have c200 : vp_in (nI (bg_ z b sp k - bg_ z b sp f + z k)) 200 := by simp (disch := omega) only [nI_add, nI_eq, nI_leI, nI_ltI, pk_sub, pk_mul, nI_clamp, nI_eqm1, nI_lt0, vp_in_iffN]; omega
    have l0 : nI (bg_ z b sp k - bg_ z b sp f + z k) ≤ nI lg ↔ bg_ z b sp k - bg_ z b sp f + z k ≤ lg := nI_leI (by omega) (by omega)
    have l1 : nI (bg_ z b sp k - bg_ z b sp f + z k + 1) ≤ nI lg ↔ bg_ z b sp k - bg_ z b sp f + z k + 1 ≤ lg := nI_leI (by omega) (by omega)
    have ek : nI k = nI (f + n) - nI 1 ↔ k = f + n - 1 := by
      rw [pk_sub (show 1 ≤ f + n by omega)]
      exact nI_eq (by omega) (by omega)
    unfold wpl_X11_lays_10_64
    simp only [c80, nI_clamp (show k < 2 ^ 31 by omega), e1, e3, e13, ek, c200, l0, l1, show nI (z k) ≤ nI (z k) from Int32.le_refl _, not_true_eq_false, true_implies, false_implies, true_and, and_true, nI_add, nI_clamp (show bg_ z b sp k - bg_ z b sp f + z k < 2 ^ 31 by omega), upA_10]
    -- a sign is shown
    have shown : sn_ b k = 1 → (bg_ z b sp k - bg_ z b sp f + z k + 1 ≤ lg → K (upA τ 10 (upd g (bg_ z b sp k - bg_ z b sp f + z k) (b k))) (nI (bg_ z b sp k - bg_ z b sp f + z k + 1)) (nI (k + 1))) ∧ (¬ bg_ z b sp k - bg_ z b sp f + z k + 1 ≤ lg → Q (-1) (upA τ 10 (upd g (bg_ z b sp k - bg_ z b sp f + z k) (b k)))) := by
      intro hs
      have hj : jt_ b k = 0 := by
        unfold sn_ at hs
        unfold jt_
        split at hs
        · rename_i hb
          rw [if_neg]
          rcases hb with hb | hb <;> rw [hb] <;> decide
        · omega
      have ee : en_ z b sp k - bg_ z b sp f = bg_ z b sp k - bg_ z b sp f + z k + 1 := by unfold en_; omega
      have ej : (if k = f + n - 1 then jt_ b k else 0) = 0 := by split <;> omega
      rw [ej, ee] at hK hN
      refine ⟨fun q => hK _ (fun j hj2 => ?_) (fun _ hb => ?_) q, fun q => hN _ q⟩
      · by_cases hjj : j = bg_ z b sp k - bg_ z b sp f + z k
        · subst hjj
          rw [upd_same, show bg_ z b sp f + (bg_ z b sp k - bg_ z b sp f + z k) = bg_ z b sp k + z k by omega, sg_end (by omega) hs]
        · rw [upd_ne hjj, hg j (by omega)]
      · rw [show jt_ b k = 1 by simp [jt_, hb]] at hj
        omega
    have plain : sn_ b k = 0 → (¬ (k = f + n - 1) ∨ ¬ b k = nI 45) → (bg_ z b sp k - bg_ z b sp f + z k ≤ lg → K (upA τ 10 g) (nI (bg_ z b sp k - bg_ z b sp f + z k)) (nI (k + 1))) ∧ (¬ bg_ z b sp k - bg_ z b sp f + z k ≤ lg → Q (-1) (upA τ 10 g)) := by
      intro hs hb
      have ee : en_ z b sp k - bg_ z b sp f = bg_ z b sp k - bg_ z b sp f + z k := by unfold en_; omega
      have ej : (if k = f + n - 1 then jt_ b k else 0) = 0 := by
        split
        · rename_i hk2
          rcases hb with hb | hb
          · exact absurd hk2 hb
          · simp [jt_, hb]
        · rfl
      rw [ej, ee] at hK hN
      exact ⟨fun q => hK g hg (fun h1 h2 => by rcases hb with hb | hb; exact absurd h1 hb; exact absurd h2 hb) q, fun q => hN g q⟩
    have cutt : k = f + n - 1 → b k = nI 45 → (bg_ z b sp k - bg_ z b sp f + z k + 1 ≤ lg → K (upA τ 10 (upd g (bg_ z b sp k - bg_ z b sp f + z k) (b k))) (nI (bg_ z b sp k - bg_ z b sp f + z k + 1)) (nI (k + 1))) ∧ (¬ bg_ z b sp k - bg_ z b sp f + z k + 1 ≤ lg → Q (-1) (upA τ 10 (upd g (bg_ z b sp k - bg_ z b sp f + z k) (b k)))) := by
      intro hk2 hb
      have hs : sn_ b k = 0 := by simp [sn_, hb, show ¬ nI 45 = nI 44 by decide, show ¬ nI 45 = nI 46 by decide]
      have ee : en_ z b sp k - bg_ z b sp f = bg_ z b sp k - bg_ z b sp f + z k := by unfold en_; omega
      have ej : (if k = f + n - 1 then jt_ b k else 0) = 1 := by rw [if_pos hk2]; simp [jt_, hb]
      rw [ej, ee] at hK hN
      refine ⟨fun q => hK _ (fun j hj2 => ?_) (fun _ _ => ?_) q, fun q => hN _ q⟩
      · rw [upd_ne (by omega), hg j (by omega)]
      · rw [upd_same, hb]
    by_cases b44 : b k = nI 44
    · have hs : sn_ b k = 1 := by simp [sn_, b44]
      have := shown hs
      simp only [b44, not_true_eq_false, true_implies, false_implies, and_true] at this ⊢
      exact this
    · by_cases b46 : b k = nI 46
      · have hs : sn_ b k = 1 := by simp [sn_, b46]
        have := shown hs
        simp only [b46, show ¬ nI 46 = nI 44 by decide, not_true_eq_false, not_false_eq_true, true_implies, false_implies, and_true, true_and] at this ⊢
        exact this
      · have hs : sn_ b k = 0 := by simp [sn_, b44, b46]
        simp only [b44, b46, not_true_eq_false, not_false_eq_true, true_implies, false_implies, and_true, true_and]
        exact ⟨fun h45 => plain hs (Or.inr h45), fun h45 => ⟨fun hk2 => plain hs (Or.inl hk2), fun hk2 => cutt hk2 h45⟩⟩
  | succ d ih =>
    intro i g hi hg
    have e1 : (upA τ 10 g) 1 k = nI (z k) := q1
    have c1 : ¬ nI (z k) ≤ nI i := by simp (disch := omega) only [nI_add, nI_eq, nI_leI, nI_ltI, pk_sub, pk_mul, nI_clamp, nI_eqm1, nI_lt0, vp_in_iffN]; omega
    have c1600 : vp_in (nI (20 * k + i)) 1600 := by simp (disch := omega) only [nI_add, nI_eq, nI_leI, nI_ltI, pk_sub, pk_mul, nI_clamp, nI_eqm1, nI_lt0, vp_in_iffN]; omega
    have c200 : vp_in (nI (bg_ z b sp k - bg_ z b sp f + i)) 200 := by simp (disch := omega) only [nI_add, nI_eq, nI_leI, nI_ltI, pk_sub, pk_mul, nI_clamp, nI_eqm1, nI_lt0, vp_in_iffN]; omega
    have e2 : (upA τ 10 g) 2 (20 * k + i) = L k i := q3 i (by omega)
    unfold wpl_X11_lays_10_64
    simp only [c80, nI_clamp (show k < 2 ^ 31 by omega), e1, c1, c1600, c200, pk_mul, nI_add, nI_clamp (show 20 * k + i < 2 ^ 31 by omega), nI_clamp (show bg_ z b sp k - bg_ z b sp f + i < 2 ^ 31 by omega), e2, not_false_eq_true, true_implies, false_implies, true_and, upA_10]
    rw [Nat.add_assoc]
    refine ih (i + 1) _ (by omega) (fun j hj => ?_)
    by_cases hjj : j = bg_ z b sp k - bg_ z b sp f + i
    · subst hjj
      rw [upd_same, show bg_ z b sp f + (bg_ z b sp k - bg_ z b sp f + i) = bg_ z b sp k + i by omega, sg_letter (by omega) (by omega)]
    · rw [upd_ne hjj, hg j (by omega)]
theorem p_lays10 {τ : St} {Q : Int32 → St → Prop} (hO : OkT u z b L) (hU : MU τ u z b L) (h13 : τ 0 13 = nI lg) (h14 : τ 0 14 = nI sp) (hlg : lg ≤ 60) (hsp : sp ≤ 3) (hsp1 : 1 ≤ sp) {f n : Nat} (hn : 1 ≤ n) (hfu : f + n ≤ u)
    (hQ : ∀ g : Nat → Int32, (∀ i, i < B_ z b sp f n → g i = sg_ z b L sp u (bg_ z b sp f + i)) → (b (f + n - 1) = nI 45 → g (B_ z b sp f n) = nI 45) → NS_ z b sp f n ≤ lg → Q (nI (NS_ z b sp f n)) (upA τ 10 g))
    (hN : ∀ g : Nat → Int32, ¬ NS_ z b sp f n ≤ lg → Q (-1) (upA τ 10 g)) : wp_X11_lays_10 τ (nI f) (nI n) Q := by
  have hu := hO.1
  have hz1 : ∀ k, k < u → 1 ≤ z k := fun j hj => (hO.2 j hj).1
  -- a line that is too long already stays so
  have tooLong : ∀ k, f ≤ k → k < f + n → ¬ en_ z b sp k - bg_ z b sp f + (if k = f + n - 1 then jt_ b k else 0) ≤ lg → ¬ NS_ z b sp f n ≤ lg := by
    intro k h1 h2 h3 h4
    apply h3
    by_cases hk : k = f + n - 1
    · subst hk
      rw [if_pos rfl]
      exact h4
    · rw [if_neg hk]
      have := en_mono (z := z) (b := b) (sp := sp) (show k ≤ f + n - 1 by omega)
      unfold NS_ B_ at h4
      omega
  have key : ∀ d k (g : Nat → Int32), k + d = f + n → f ≤ k → k < f + n → (∀ j, j < (if k = f then 0 else en_ z b sp (k - 1) - bg_ z b sp f) → g j = sg_ z b L sp u (bg_ z b sp f + j)) → (if k = f then 0 else en_ z b sp (k - 1) - bg_ z b sp f) ≤ lg → wpl_X11_lays_10_6 (nI f) (nI n) Q (d + 1) (upA τ 10 g) (nI (if k = f then 0 else en_ z b sp (k - 1) - bg_ z b sp f)) (nI k) := by
    intro d
    induction d with
    | zero => intro k g h1 h2 h3; omega
    | succ d ih =>
      intro k g h1 h2 h3 hg hlen
      -- behind the blanks
      have unit : ∀ g' : Nat → Int32, bg_ z b sp k - bg_ z b sp f ≤ 63 → (∀ j, j < bg_ z b sp k - bg_ z b sp f → g' j = sg_ z b L sp u (bg_ z b sp f + j)) → ∃ m, wpl_X11_lays_10_64 (nI f) (nI n) (nI k) (wpl_X11_lays_10_6 (nI f) (nI n) Q (d + 1)) Q m (upA τ 10 g') (nI (bg_ z b sp k - bg_ z b sp f)) (nI 0) := by
        intro g' h63 hg'
        refine ⟨z k + 1, ?_⟩
        refine lays_unit10 (K := wpl_X11_lays_10_6 (nI f) (nI n) Q (d + 1)) (Q := Q) (sp := sp) hO hU h13 hlg h2 h3 hfu h63 (fun g2 a1 a2 a3 => ?_) (fun g2 a1 => hN g2 (tooLong k h2 h3 a1)) (z k) 0 g' (by omega) hg'
        by_cases hlast : k = f + n - 1
        · have hd0 : d = 0 := by omega
          subst hd0
          rw [if_pos hlast] at a3 ⊢
          unfold wpl_X11_lays_10_6
          have c1 : nI f + nI n ≤ nI (k + 1) := by simp (disch := omega) only [nI_add, nI_eq, nI_leI, nI_ltI, pk_sub, pk_mul, nI_clamp, nI_eqm1, nI_lt0, vp_in_iffN]; omega
          simp only [c1, not_true_eq_false, true_implies, false_implies, and_true]
          have eN : en_ z b sp k - bg_ z b sp f + jt_ b k = NS_ z b sp f n := by unfold NS_ B_; rw [← hlast]
          rw [eN] at a3 ⊢
          refine hQ g2 (fun i hi => a1 i ?_) (fun hb => ?_) a3
          · unfold B_ at hi; rw [← hlast] at hi; exact hi
          · have := a2 hlast (by rw [hlast]; exact hb)
            unfold B_
            rw [← hlast]
            exact this
        · rw [if_neg hlast, Nat.add_zero] at a3 ⊢
          have := ih (k + 1) g2 (by omega) (by omega) (by omega)
          rw [if_neg (show ¬ k + 1 = f by omega), Nat.add_sub_cancel] at this
          exact this a1 a3
      unfold wpl_X11_lays_10_6
      have c1 : ¬ nI f + nI n ≤ nI k := by simp (disch := omega) only [nI_add, nI_eq, nI_leI, nI_ltI, pk_sub, pk_mul, nI_clamp, nI_eqm1, nI_lt0, vp_in_iffN]; omega
      have e14 : (upA τ 10 g) 0 14 = nI sp := h14
      simp only [c1, not_false_eq_true, true_implies, false_implies, true_and]
      refine ⟨fun q => ?_, fun q => ?_⟩
      · rw [nI_leI (by omega) (by omega)] at q
        obtain rfl : k = f := by omega
        rw [if_pos rfl] at hg ⊢
        have := unit g (by omega) (fun j hj => by omega)
        rw [Nat.sub_self] at this
        exact this
      · rw [nI_leI (by omega) (by omega)] at q
        rw [if_neg (show ¬ k = f by omega)] at hg hlen ⊢
        obtain ⟨m, rfl⟩ : ∃ m, k = m + 1 := ⟨k - 1, by omega⟩
        rw [Nat.add_sub_cancel] at hg hlen ⊢
        have c80 : vp_in (nI m) 80 := by simp (disch := omega) only [nI_add, nI_eq, nI_leI, nI_ltI, pk_sub, pk_mul, nI_clamp, nI_eqm1, nI_lt0, vp_in_iffN]; omega
        have e3 : (upA τ 10 g) 3 m = b m := (hU.2 m (by omega)).2.1
        rw [pk_sub (show 1 ≤ m + 1 by omega), Nat.add_sub_cancel, nI_clamp (show m < 2 ^ 31 by omega), e3]
        have hmf := bg_mono (z := z) (b := b) (sp := sp) (show f ≤ m by omega)
        have hme := bg_le_en z b sp m
        refine ⟨c80, fun q45 => ?_, fun q45 => ?_⟩
        · have eb : bg_ z b sp (m + 1) = en_ z b sp m := by rw [bg_succ]; simp [gp_, q45]
          have := unit g (by omega) (by rw [eb]; exact hg)
          rw [eb] at this
          exact this
        · have eb : bg_ z b sp (m + 1) = en_ z b sp m + sp := by rw [bg_succ]; simp [gp_, q45]
          -- the blanks
          have blanks : ∀ d2 i (g' : Nat → Int32), i + d2 = sp → (∀ j, j < en_ z b sp m - bg_ z b sp f + i → g' j = sg_ z b L sp u (bg_ z b sp f + j)) → wpl_X11_lays_10_37 (nI f) (nI n) (nI (m + 1)) (wpl_X11_lays_10_6 (nI f) (nI n) Q (d + 1)) Q (d2 + 1) (upA τ 10 g') (nI (en_ z b sp m - bg_ z b sp f + i)) (nI i) := by
            intro d2
            induction d2 with
            | zero =>
              intro i g' hi hg'
              obtain rfl : i = sp := by omega
              unfold wpl_X11_lays_10_37
              have e14' : (upA τ 10 g') 0 14 = nI i := h14
              rw [e14']
              refine ⟨fun _ => ?_, fun c => absurd (Int32.le_refl _) c⟩
              have es : en_ z b i m - bg_ z b i f + i = bg_ z b i (m + 1) - bg_ z b i f := by omega
              rw [es] at hg' ⊢
              exact unit g' (by omega) hg'
            | succ d2 ih2 =>
              intro i g' hi hg'
              unfold wpl_X11_lays_10_37
              have e14' : (upA τ 10 g') 0 14 = nI sp := h14
              have cs : ¬ nI sp ≤ nI i := by simp (disch := omega) only [nI_add, nI_eq, nI_leI, nI_ltI, pk_sub, pk_mul, nI_clamp, nI_eqm1, nI_lt0, vp_in_iffN]; omega
              have c200 : vp_in (nI (en_ z b sp m - bg_ z b sp f + i)) 200 := by simp (disch := omega) only [nI_add, nI_eq, nI_leI, nI_ltI, pk_sub, pk_mul, nI_clamp, nI_eqm1, nI_lt0, vp_in_iffN]; omega
              simp only [e14', cs, c200, nI_add, nI_clamp (show en_ z b sp m - bg_ z b sp f + i < 2 ^ 31 by omega), not_false_eq_true, true_implies, false_implies, true_and, upA_10]
              rw [Nat.add_assoc]
              refine ih2 (i + 1) _ (by omega) (fun j hj => ?_)
              by_cases hjj : j = en_ z b sp m - bg_ z b sp f + i
              · subst hjj
                rw [upd_same, show bg_ z b sp f + (en_ z b sp m - bg_ z b sp f + i) = en_ z b sp m + i by omega, sg_gap (k := m) (by omega) (by omega) u]
              · rw [upd_ne hjj, hg' j (by omega)]
          exact ⟨sp + 1, blanks sp 0 g (by omega) hg⟩
  unfold wp_X11_lays_10
  refine ⟨n + 1, ?_⟩
  have := key n f (τ 10) (by omega) (Nat.le_refl _) (by omega) (fun j hj => by rw [if_pos rfl] at hj; omega) (by rw [if_pos rfl]; omega)
  rw [if_pos rfl] at this
  have e : upA τ 10 (τ 10) = τ := by
    funext c
    by_cases h : c = 10
    · subst h; rw [upA_same]
    · rw [upA_ne h]
  rw [e] at this
  exact this
end LAY10
theorem upA_11 {τ : St} {g : Nat → Int32} {i : Nat} {v : Int32} : up2 (upA τ 11 g) 11 i v = upA τ 11 (upd g i v) := by
  rw [up2_eq, upA_same, upA_upA]
section LAY11
variable {u : Nat} {z : Nat → Nat} {b : Nat → Int32} {L : Nat → Nat → Int32} {lg sp : Nat}
theorem lays_unit11 {τ : St} {K : St → Int32 → Int32 → Prop} {Q : Int32 → St → Prop} (hO : OkT u z b L) (hU : MU τ u z b L) (h13 : τ 0 13 = nI lg) (hlg : lg ≤ 60) {f n k : Nat} (hf : f ≤ k) (hk : k < f + n) (hfu : f + n ≤ u) (ha : bg_ z b sp k - bg_ z b sp f ≤ 63)
    (hK : ∀ g : Nat → Int32, (∀ i, i < en_ z b sp k - bg_ z b sp f → g i = sg_ z b L sp u (bg_ z b sp f + i)) → (k = f + n - 1 → b k = nI 45 → g (en_ z b sp k - bg_ z b sp f) = nI 45) → en_ z b sp k - bg_ z b sp f + (if k = f + n - 1 then jt_ b k else 0) ≤ lg → K (upA τ 11 g) (nI (en_ z b sp k - bg_ z b sp f + (if k = f + n - 1 then jt_ b k else 0))) (nI (k + 1)))
    (hN : ∀ g : Nat → Int32, ¬ en_ z b sp k - bg_ z b sp f + (if k = f + n - 1 then jt_ b k else 0) ≤ lg → Q (-1) (upA τ 11 g)) :
    ∀ d i (g : Nat → Int32), i + d = z k → (∀ j, j < bg_ z b sp k - bg_ z b sp f + i → g j = sg_ z b L sp u (bg_ z b sp f + j)) → wpl_X11_lays_11_64 (nI f) (nI n) (nI k) K Q (d + 1) (upA τ 11 g) (nI (bg_ z b sp k - bg_ z b sp f + i)) (nI i) := by
  have hu := hO.1
  obtain ⟨o1, o2, o3, o4⟩ := hO.2 k (by omega)
  obtain ⟨q1, q2, q3, q4⟩ := hU.2 k (by omega)
  have hFk := bg_mono (z := z) (b := b) (sp := sp) hf
  have c80 : vp_in (nI k) 80 := by simp (disch := omega) only [nI_add, nI_eq, nI_leI, nI_ltI, pk_sub, pk_mul, nI_clamp, nI_eqm1, nI_lt0, vp_in_iffN]; omega
  intro d
  induction d with
  | zero =>
    intro i g hi hg
    obtain rfl : i = z k := by omega
    have e1 : (upA τ 11 g) 1 k = nI (z k) := q1
    have e3 : (upA τ 11 g) 3 k = b k := q2
    have e13 : (upA τ 11 g) 0 13 = nI lg := h13
    have c200 : vp_in (nI (bg_ z b sp k - bg_ z b sp f + z k)) 200 := by simp (disch := omega) only [nI_add, nI_eq, nI_leI, nI_ltI, pk_sub, pk_mul, nI_clamp, nI_eqm1, nI_lt0, vp_in_iffN]; omega
    have l0 : nI (bg_ z b sp k - bg_ z b sp f + z k) ≤ nI lg ↔ bg_ z b sp k - bg_ z b sp f + z k ≤ lg := nI_leI (by omega) (by omega)
    have l1 : nI (bg_ z b sp k - bg_ z b sp f + z k + 1) ≤ nI lg ↔ bg_ z b sp k - bg_ z b sp f + z k + 1 ≤ lg := nI_leI (by omega) (by omega)
    have ek : nI k = nI (f + n) - nI 1 ↔ k = f + n - 1 := by
      rw [pk_sub (show 1 ≤ f + n by omega)]
      exact nI_eq (by omega) (by omega)
    unfold wpl_X11_lays_11_64
    simp only [c80, nI_clamp (show k < 2 ^ 31 by omega), e1, e3, e13, ek, c200, l0, l1, show nI (z k) ≤ nI (z k) from Int32.le_refl _, not_true_eq_false, true_implies, false_implies, true_and, and_true, nI_add, nI_clamp (show bg_ z b sp k - bg_ z b sp f + z k < 2 ^ 31 by omega), upA_11]
    -- a sign is shown
    have shown : sn_ b k = 1 → (bg_ z b sp k - bg_ z b sp f + z k + 1 ≤ lg → K (upA τ 11 (upd g (bg_ z b sp k - bg_ z b sp f + z k) (b k))) (nI (bg_ z b sp k - bg_ z b sp f + z k + 1)) (nI (k + 1))) ∧ (¬ bg_ z b sp k - bg_ z b sp f + z k + 1 ≤ lg → Q (-1) (upA τ 11 (upd g (bg_ z b sp k - bg_ z b sp f + z k) (b k)))) := by
      intro hs
      have hj : jt_ b k = 0 := by
        unfold sn_ at hs
        unfold jt_
        split at hs
        · rename_i hb
          rw [if_neg]
          rcases hb with hb | hb <;> rw [hb] <;> decide
        · omega
      have ee : en_ z b sp k - bg_ z b sp f = bg_ z b sp k - bg_ z b sp f + z k + 1 := by unfold en_; omega
      have ej : (if k = f + n - 1 then jt_ b k else 0) = 0 := by split <;> omega
      rw [ej, ee] at hK hN
      refine ⟨fun q => hK _ (fun j hj2 => ?_) (fun _ hb => ?_) q, fun q => hN _ q⟩
      · by_cases hjj : j = bg_ z b sp k - bg_ z b sp f + z k
        · subst hjj
          rw [upd_same, show bg_ z b sp f + (bg_ z b sp k - bg_ z b sp f + z k) = bg_ z b sp k + z k by omega, sg_end (by omega) hs]
        · rw [upd_ne hjj, hg j (by omega)]
      · rw [show jt_ b k = 1 by simp [jt_, hb]] at hj
        omega
    have plain : sn_ b k = 0 → (¬ (k = f + n - 1) ∨ ¬ b k = nI 45) → (bg_ z b sp k - bg_ z b sp f + z k ≤ lg → K (upA τ 11 g) (nI (bg_ z b sp k - bg_ z b sp f + z k)) (nI (k + 1))) ∧ (¬ bg_ z b sp k - bg_ z b sp f + z k ≤ lg → Q (-1) (upA τ 11 g)) := by
      intro hs hb
      have ee : en_ z b sp k - bg_ z b sp f = bg_ z b sp k - bg_ z b sp f + z k := by unfold en_; omega
      have ej : (if k = f + n - 1 then jt_ b k else 0) = 0 := by
        split
        · rename_i hk2
          rcases hb with hb | hb
          · exact absurd hk2 hb
          · simp [jt_, hb]
        · rfl
      rw [ej, ee] at hK hN
      exact ⟨fun q => hK g hg (fun h1 h2 => by rcases hb with hb | hb; exact absurd h1 hb; exact absurd h2 hb) q, fun q => hN g q⟩
    have cutt : k = f + n - 1 → b k = nI 45 → (bg_ z b sp k - bg_ z b sp f + z k + 1 ≤ lg → K (upA τ 11 (upd g (bg_ z b sp k - bg_ z b sp f + z k) (b k))) (nI (bg_ z b sp k - bg_ z b sp f + z k + 1)) (nI (k + 1))) ∧ (¬ bg_ z b sp k - bg_ z b sp f + z k + 1 ≤ lg → Q (-1) (upA τ 11 (upd g (bg_ z b sp k - bg_ z b sp f + z k) (b k)))) := by
      intro hk2 hb
      have hs : sn_ b k = 0 := by simp [sn_, hb, show ¬ nI 45 = nI 44 by decide, show ¬ nI 45 = nI 46 by decide]
      have ee : en_ z b sp k - bg_ z b sp f = bg_ z b sp k - bg_ z b sp f + z k := by unfold en_; omega
      have ej : (if k = f + n - 1 then jt_ b k else 0) = 1 := by rw [if_pos hk2]; simp [jt_, hb]
      rw [ej, ee] at hK hN
      refine ⟨fun q => hK _ (fun j hj2 => ?_) (fun _ _ => ?_) q, fun q => hN _ q⟩
      · rw [upd_ne (by omega), hg j (by omega)]
      · rw [upd_same, hb]
    by_cases b44 : b k = nI 44
    · have hs : sn_ b k = 1 := by simp [sn_, b44]
      have := shown hs
      simp only [b44, not_true_eq_false, true_implies, false_implies, and_true] at this ⊢
      exact this
    · by_cases b46 : b k = nI 46
      · have hs : sn_ b k = 1 := by simp [sn_, b46]
        have := shown hs
        simp only [b46, show ¬ nI 46 = nI 44 by decide, not_true_eq_false, not_false_eq_true, true_implies, false_implies, and_true, true_and] at this ⊢
        exact this
      · have hs : sn_ b k = 0 := by simp [sn_, b44, b46]
        simp only [b44, b46, not_true_eq_false, not_false_eq_true, true_implies, false_implies, and_true, true_and]
        exact ⟨fun h45 => plain hs (Or.inr h45), fun h45 => ⟨fun hk2 => plain hs (Or.inl hk2), fun hk2 => cutt hk2 h45⟩⟩
  | succ d ih =>
    intro i g hi hg
    have e1 : (upA τ 11 g) 1 k = nI (z k) := q1
    have c1 : ¬ nI (z k) ≤ nI i := by simp (disch := omega) only [nI_add, nI_eq, nI_leI, nI_ltI, pk_sub, pk_mul, nI_clamp, nI_eqm1, nI_lt0, vp_in_iffN]; omega
    have c1600 : vp_in (nI (20 * k + i)) 1600 := by simp (disch := omega) only [nI_add, nI_eq, nI_leI, nI_ltI, pk_sub, pk_mul, nI_clamp, nI_eqm1, nI_lt0, vp_in_iffN]; omega
    have c200 : vp_in (nI (bg_ z b sp k - bg_ z b sp f + i)) 200 := by simp (disch := omega) only [nI_add, nI_eq, nI_leI, nI_ltI, pk_sub, pk_mul, nI_clamp, nI_eqm1, nI_lt0, vp_in_iffN]; omega
    have e2 : (upA τ 11 g) 2 (20 * k + i) = L k i := q3 i (by omega)
    unfold wpl_X11_lays_11_64
    simp only [c80, nI_clamp (show k < 2 ^ 31 by omega), e1, c1, c1600, c200, pk_mul, nI_add, nI_clamp (show 20 * k + i < 2 ^ 31 by omega), nI_clamp (show bg_ z b sp k - bg_ z b sp f + i < 2 ^ 31 by omega), e2, not_false_eq_true, true_implies, false_implies, true_and, upA_11]
    rw [Nat.add_assoc]
    refine ih (i + 1) _ (by omega) (fun j hj => ?_)
    by_cases hjj : j = bg_ z b sp k - bg_ z b sp f + i
    · subst hjj
      rw [upd_same, show bg_ z b sp f + (bg_ z b sp k - bg_ z b sp f + i) = bg_ z b sp k + i by omega, sg_letter (by omega) (by omega)]
    · rw [upd_ne hjj, hg j (by omega)]
theorem p_lays11 {τ : St} {Q : Int32 → St → Prop} (hO : OkT u z b L) (hU : MU τ u z b L) (h13 : τ 0 13 = nI lg) (h14 : τ 0 14 = nI sp) (hlg : lg ≤ 60) (hsp : sp ≤ 3) (hsp1 : 1 ≤ sp) {f n : Nat} (hn : 1 ≤ n) (hfu : f + n ≤ u)
    (hQ : ∀ g : Nat → Int32, (∀ i, i < B_ z b sp f n → g i = sg_ z b L sp u (bg_ z b sp f + i)) → (b (f + n - 1) = nI 45 → g (B_ z b sp f n) = nI 45) → NS_ z b sp f n ≤ lg → Q (nI (NS_ z b sp f n)) (upA τ 11 g))
    (hN : ∀ g : Nat → Int32, ¬ NS_ z b sp f n ≤ lg → Q (-1) (upA τ 11 g)) : wp_X11_lays_11 τ (nI f) (nI n) Q := by
  have hu := hO.1
  have hz1 : ∀ k, k < u → 1 ≤ z k := fun j hj => (hO.2 j hj).1
  -- a line that is too long already stays so
  have tooLong : ∀ k, f ≤ k → k < f + n → ¬ en_ z b sp k - bg_ z b sp f + (if k = f + n - 1 then jt_ b k else 0) ≤ lg → ¬ NS_ z b sp f n ≤ lg := by
    intro k h1 h2 h3 h4
    apply h3
    by_cases hk : k = f + n - 1
    · subst hk
      rw [if_pos rfl]
      exact h4
    · rw [if_neg hk]
      have := en_mono (z := z) (b := b) (sp := sp) (show k ≤ f + n - 1 by omega)
      unfold NS_ B_ at h4
      omega
  have key : ∀ d k (g : Nat → Int32), k + d = f + n → f ≤ k → k < f + n → (∀ j, j < (if k = f then 0 else en_ z b sp (k - 1) - bg_ z b sp f) → g j = sg_ z b L sp u (bg_ z b sp f + j)) → (if k = f then 0 else en_ z b sp (k - 1) - bg_ z b sp f) ≤ lg → wpl_X11_lays_11_6 (nI f) (nI n) Q (d + 1) (upA τ 11 g) (nI (if k = f then 0 else en_ z b sp (k - 1) - bg_ z b sp f)) (nI k) := by
    intro d
    induction d with
    | zero => intro k g h1 h2 h3; omega
    | succ d ih =>
      intro k g h1 h2 h3 hg hlen
      -- behind the blanks
      have unit : ∀ g' : Nat → Int32, bg_ z b sp k - bg_ z b sp f ≤ 63 → (∀ j, j < bg_ z b sp k - bg_ z b sp f → g' j = sg_ z b L sp u (bg_ z b sp f + j)) → ∃ m, wpl_X11_lays_11_64 (nI f) (nI n) (nI k) (wpl_X11_lays_11_6 (nI f) (nI n) Q (d + 1)) Q m (upA τ 11 g') (nI (bg_ z b sp k - bg_ z b sp f)) (nI 0) := by
        intro g' h63 hg'
        refine ⟨z k + 1, ?_⟩
        refine lays_unit11 (K := wpl_X11_lays_11_6 (nI f) (nI n) Q (d + 1)) (Q := Q) (sp := sp) hO hU h13 hlg h2 h3 hfu h63 (fun g2 a1 a2 a3 => ?_) (fun g2 a1 => hN g2 (tooLong k h2 h3 a1)) (z k) 0 g' (by omega) hg'
        by_cases hlast : k = f + n - 1
        · have hd0 : d = 0 := by omega
          subst hd0
          rw [if_pos hlast] at a3 ⊢
          unfold wpl_X11_lays_11_6
          have c1 : nI f + nI n ≤ nI (k + 1) := by simp (disch := omega) only [nI_add, nI_eq, nI_leI, nI_ltI, pk_sub, pk_mul, nI_clamp, nI_eqm1, nI_lt0, vp_in_iffN]; omega
          simp only [c1, not_true_eq_false, true_implies, false_implies, and_true]
          have eN : en_ z b sp k - bg_ z b sp f + jt_ b k = NS_ z b sp f n := by unfold NS_ B_; rw [← hlast]
          rw [eN] at a3 ⊢
          refine hQ g2 (fun i hi => a1 i ?_) (fun hb => ?_) a3
          · unfold B_ at hi; rw [← hlast] at hi; exact hi
          · have := a2 hlast (by rw [hlast]; exact hb)
            unfold B_
            rw [← hlast]
            exact this
        · rw [if_neg hlast, Nat.add_zero] at a3 ⊢
          have := ih (k + 1) g2 (by omega) (by omega) (by omega)
          rw [if_neg (show ¬ k + 1 = f by omega), Nat.add_sub_cancel] at this
          exact this a1 a3
      unfold wpl_X11_lays_11_6
      have c1 : ¬ nI f + nI n ≤ nI k := by simp (disch := omega) only [nI_add, nI_eq, nI_leI, nI_ltI, pk_sub, pk_mul, nI_clamp, nI_eqm1, nI_lt0, vp_in_iffN]; omega
      have e14 : (upA τ 11 g) 0 14 = nI sp := h14
      simp only [c1, not_false_eq_true, true_implies, false_implies, true_and]
      refine ⟨fun q => ?_, fun q => ?_⟩
      · rw [nI_leI (by omega) (by omega)] at q
        obtain rfl : k = f := by omega
        rw [if_pos rfl] at hg ⊢
        have := unit g (by omega) (fun j hj => by omega)
        rw [Nat.sub_self] at this
        exact this
      · rw [nI_leI (by omega) (by omega)] at q
        rw [if_neg (show ¬ k = f by omega)] at hg hlen ⊢
        obtain ⟨m, rfl⟩ : ∃ m, k = m + 1 := ⟨k - 1, by omega⟩
        rw [Nat.add_sub_cancel] at hg hlen ⊢
        have c80 : vp_in (nI m) 80 := by simp (disch := omega) only [nI_add, nI_eq, nI_leI, nI_ltI, pk_sub, pk_mul, nI_clamp, nI_eqm1, nI_lt0, vp_in_iffN]; omega
        have e3 : (upA τ 11 g) 3 m = b m := (hU.2 m (by omega)).2.1
        rw [pk_sub (show 1 ≤ m + 1 by omega), Nat.add_sub_cancel, nI_clamp (show m < 2 ^ 31 by omega), e3]
        have hmf := bg_mono (z := z) (b := b) (sp := sp) (show f ≤ m by omega)
        have hme := bg_le_en z b sp m
        refine ⟨c80, fun q45 => ?_, fun q45 => ?_⟩
        · have eb : bg_ z b sp (m + 1) = en_ z b sp m := by rw [bg_succ]; simp [gp_, q45]
          have := unit g (by omega) (by rw [eb]; exact hg)
          rw [eb] at this
          exact this
        · have eb : bg_ z b sp (m + 1) = en_ z b sp m + sp := by rw [bg_succ]; simp [gp_, q45]
          -- the blanks
          have blanks : ∀ d2 i (g' : Nat → Int32), i + d2 = sp → (∀ j, j < en_ z b sp m - bg_ z b sp f + i → g' j = sg_ z b L sp u (bg_ z b sp f + j)) → wpl_X11_lays_11_37 (nI f) (nI n) (nI (m + 1)) (wpl_X11_lays_11_6 (nI f) (nI n) Q (d + 1)) Q (d2 + 1) (upA τ 11 g') (nI (en_ z b sp m - bg_ z b sp f + i)) (nI i) := by
            intro d2
            induction d2 with
            | zero =>
              intro i g' hi hg'
              obtain rfl : i = sp := by omega
              unfold wpl_X11_lays_11_37
              have e14' : (upA τ 11 g') 0 14 = nI i := h14
              rw [e14']
              refine ⟨fun _ => ?_, fun c => absurd (Int32.le_refl _) c⟩
              have es : en_ z b i m - bg_ z b i f + i = bg_ z b i (m + 1) - bg_ z b i f := by omega
              rw [es] at hg' ⊢
              exact unit g' (by omega) hg'
            | succ d2 ih2 =>
              intro i g' hi hg'
              unfold wpl_X11_lays_11_37
              have e14' : (upA τ 11 g') 0 14 = nI sp := h14
              have cs : ¬ nI sp ≤ nI i := by simp (disch := omega) only [nI_add, nI_eq, nI_leI, nI_ltI, pk_sub, pk_mul, nI_clamp, nI_eqm1, nI_lt0, vp_in_iffN]; omega
              have c200 : vp_in (nI (en_ z b sp m - bg_ z b sp f + i)) 200 := by simp (disch := omega) only [nI_add, nI_eq, nI_leI, nI_ltI, pk_sub, pk_mul, nI_clamp, nI_eqm1, nI_lt0, vp_in_iffN]; omega
              simp only [e14', cs, c200, nI_add, nI_clamp (show en_ z b sp m - bg_ z b sp f + i < 2 ^ 31 by omega), not_false_eq_true, true_implies, false_implies, true_and, upA_11]
              rw [Nat.add_assoc]
              refine ih2 (i + 1) _ (by omega) (fun j hj => ?_)
              by_cases hjj : j = en_ z b sp m - bg_ z b sp f + i
              · subst hjj
                rw [upd_same, show bg_ z b sp f + (en_ z b sp m - bg_ z b sp f + i) = en_ z b sp m + i by omega, sg_gap (k := m) (by omega) (by omega) u]
              · rw [upd_ne hjj, hg' j (by omega)]
          exact ⟨sp + 1, blanks sp 0 g (by omega) hg⟩
  unfold wp_X11_lays_11
  refine ⟨n + 1, ?_⟩
  have := key n f (τ 11) (by omega) (Nat.le_refl _) (by omega) (fun j hj => by rw [if_pos rfl] at hj; omega) (by rw [if_pos rfl]; omega)
  rw [if_pos rfl] at this
  have e : upA τ 11 (τ 11) = τ := by
    funext c
    by_cases h : c = 11
    · subst h; rw [upA_same]
    · rw [upA_ne h]
  rw [e] at this
  exact this
end LAY11
