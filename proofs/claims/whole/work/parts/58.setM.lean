/-! the reference's set() -/
theorem u2A {ρ : St} {c i : Nat} {h : Nat → Int32} {v : Int32} : up2 (upA ρ c h) c i v = upA ρ c (upd h i v) := by
  funext d
  by_cases hd : d = c
  · subst hd
    rw [up2_same, upA_same, upA_same]
  · rw [up2_ne hd, upA_ne hd, upA_ne hd]
theorem lastbad (P : Nat → Prop) : ∀ u, ∃ K, K ≤ u ∧ (∀ k, K ≤ k → k < u → P k) ∧ (0 < K → ¬ P (K - 1))
  | 0 => ⟨0, Nat.le_refl _, fun k _ h => absurd h (Nat.not_lt_zero _), fun h => absurd h (Nat.lt_irrefl _)⟩
  | u + 1 => by
    by_cases h : P u
    · obtain ⟨K, h1, h2, h3⟩ := lastbad P u
      refine ⟨K, by omega, fun k k1 k2 => ?_, h3⟩
      by_cases hk : k = u
      · subst hk; exact h
      · exact h2 k k1 (by omega)
    · exact ⟨u + 1, Nat.le_refl _, fun k k1 k2 => by omega, fun _ => h⟩
theorem mbF_bm {g g' : Nat → Nat} : ∀ k, 1 ≤ k → (∀ m, 1 ≤ m → m ≤ k → g m = g' m ∧ g' m < 1000000000) → mbF g k = (bm_ g' k).1
  | 0, h, _ => by omega
  | k + 1, _, h => by
    have hk := h (k + 1) (by omega) (Nat.le_refl _)
    rcases Nat.eq_zero_or_pos k with e | e
    · subst e
      have e1 : (bm_ g' (0 + 1)).1 = g' (0 + 1) := rfl
      show (if 1000000000 ≤ g (0 + 1) then 1000000000 else g (0 + 1)) = (bm_ g' (0 + 1)).1
      rw [e1, hk.1, if_neg (by omega)]
    · have ih := mbF_bm k e (fun m m1 m2 => h m m1 (by omega))
      have sp := bm_spec g' k e
      simp only [mbF, bm_]
      rw [ih, hk.1]
      by_cases hc : (bm_ g' k).2 = 0 ∨ g' (k + 1) ≤ (bm_ g' k).1
      · rw [if_pos hc]
        have : g' (k + 1) ≤ (bm_ g' k).1 := by omega
        split
        · simp only; omega
        · rfl
      · rw [if_neg hc, if_pos (by omega)]
theorem mbF_stay {g : Nat → Nat} {k : Nat} : ∀ j, (∀ m, k < m → m ≤ k + j → g m = 1000000000) → mbF g (k + j) = mbF g k
  | 0, _ => rfl
  | j + 1, h => by
    have ih := mbF_stay j (fun m m1 m2 => h m m1 (by omega))
    have hk := h (k + j + 1) (by omega) (by omega)
    have := mbF_le g k
    show (if mbF g (k + j) ≤ g (k + j + 1) then mbF g (k + j) else g (k + j + 1)) = mbF g k
    rw [ih, hk, if_pos this]
section STM
variable {u : Nat} {z : Nat → Nat} {b : Nat → Int32} {L : Nat → Nat → Int32} {lg sp sh ph inn ct rv : Nat} {lk : Nat → Nat → Nat}
/-- the table -/
def TT (u : Nat) (z : Nat → Nat) (b : Nat → Int32) (S : Nat → Int32) (lg sp sh ph inn ct rv : Nat) (lk : Nat → Nat → Nat) (K f n : Nat) : Nat :=
  if K ≤ f ∧ 1 ≤ n ∧ f + n ≤ u ∧ NS_ z b sp f n ≤ lg then Vf_ u z b S lg sp sh ph inn ct rv lk f n else 1000000000
theorem Vf_bd {S : Nat → Int32} (hO : OkT u z b L) (hM : OkM lg sp sh ph inn ct rv lk) {f n : Nat} (hf : f + n ≤ u) (hfit : NS_ z b sp f n ≤ lg) : Vf_ u z b S lg sp sh ph inn ct rv lk f n ≤ 34400000 := by
  obtain ⟨m1, m2, m3, m4, m5, m6, m7, m8, m9, m10⟩ := hM
  have := V_le (S := S) (fun k hk => (hO.2 k hk).1) m3 m2 m5 m6 m7 m8 m9 m10 u f n hf hfit
  have := hO.1
  unfold Vf_
  omega
theorem TT_le {S : Nat → Int32} (hO : OkT u z b L) (hM : OkM lg sp sh ph inn ct rv lk) {K f n : Nat} : TT u z b S lg sp sh ph inn ct rv lk K f n ≤ 1000000000 := by
  unfold TT
  split
  · rename_i h
    have := Vf_bd (S := S) hO hM h.2.2.1 h.2.2.2
    omega
  · omega
theorem TT3 {S : Nat → Int32} (hO : OkT u z b L) (hM : OkM lg sp sh ph inn ct rv lk) {K : Nat} (hK : ∀ k, K ≤ k → k < u → NS_ z b sp k 1 ≤ lg) {f n : Nat} (hn : 1 ≤ n) (hf : f + n < u) (hfit : NS_ z b sp f n ≤ lg) (hKf : K ≤ f) :
    (∀ m, 1 ≤ m → m ≤ mx_ u z b sp lg (f + n) → co_ (TT u z b S lg sp sh ph inn ct rv lk K) z b S sp rv lk f n m = pr_ z b S sp rv lk f n m + Vf_ u z b S lg sp sh ph inn ct rv lk (f + n) m ∧ pr_ z b S sp rv lk f n m + Vf_ u z b S lg sp sh ph inn ct rv lk (f + n) m < 1000000000) ∧
    (∀ m, mx_ u z b sp lg (f + n) < m → f + n + m ≤ u → co_ (TT u z b S lg sp sh ph inn ct rv lk K) z b S sp rv lk f n m = 1000000000) := by
  have hz1 : ∀ k, k < u → 1 ≤ z k := fun j hj => (hO.2 j hj).1
  have hlg := hM.2.1
  have hsp := hM.2.2.1
  refine ⟨fun m m1 m2 => ?_, fun m m1 m2 => ?_⟩
  · have q1 := mx_le (z := z) (b := b) (sp := sp) (lg := lg) (show f + n ≤ u by omega)
    have q2 := mx_fit (z := z) (b := b) (lg := lg) hz1 hsp (show f + n ≤ u by omega) m1 m2
    have q3 := Vf_bd (S := S) hO hM (show f + n + m ≤ u by omega) q2
    have q4 := pr_le (z := z) (b := b) (S := S) (sp := sp) (f := f) (n := n) (m := m) hM.2.2.2.2.2.2.2.2.1 hM.2.2.2.2.2.2.2.2.2 (by unfold NS_ at hfit; omega)
    have e : TT u z b S lg sp sh ph inn ct rv lk K (f + n) m = Vf_ u z b S lg sp sh ph inn ct rv lk (f + n) m := by
      unfold TT
      rw [if_pos ⟨by omega, m1, by omega, q2⟩]
    refine ⟨?_, by omega⟩
    unfold co_
    rw [e, if_pos (by omega)]
  · have e : TT u z b S lg sp sh ph inn ct rv lk K (f + n) m = 1000000000 := by
      unfold TT
      rw [if_neg (fun q => mx_out m1 q.2.2.1 q.2.2.2)]
    unfold co_
    rw [e, if_neg (by omega)]
theorem TT_rec {S : Nat → Int32} (hO : OkT u z b L) (hM : OkM lg sp sh ph inn ct rv lk) {K : Nat} (hK : ∀ k, K ≤ k → k < u → NS_ z b sp k 1 ≤ lg) (hKu : K ≤ u) (hK2 : 0 < K → ¬ NS_ z b sp (K - 1) 1 ≤ lg) :
    (∀ f n, 1 ≤ n → f + n = u → NS_ z b sp f n ≤ lg → TT u z b S lg sp sh ph inn ct rv lk K f n = 0) ∧
    (∀ f n, 1 ≤ n → f + n < u → NS_ z b sp f n ≤ lg → TT u z b S lg sp sh ph inn ct rv lk K f n = if mbF (co_ (TT u z b S lg sp sh ph inn ct rv lk K) z b S sp rv lk f n) (min 60 (u - (f + n))) < 1000000000 then mbF (co_ (TT u z b S lg sp sh ph inn ct rv lk K) z b S sp rv lk f n) (min 60 (u - (f + n))) + ls_ z b lg sp sh ph inn ct f n else 1000000000) := by
  have hz1 : ∀ k, k < u → 1 ≤ z k := fun j hj => (hO.2 j hj).1
  have hlg := hM.2.1
  have hsp := hM.2.2.1
  have away : ∀ f n, 1 ≤ n → f + n ≤ u → NS_ z b sp f n ≤ lg → f < K → f + n < K := by
    intro f n hn hf hfit hfK
    refine Classical.byContradiction (fun hc => ?_)
    have := NS_sub (b := b) (sp := sp) (f := f) (n := n) (k := K - 1) hz1 hsp (by omega) (by omega) hf
    have := hK2 (by omega)
    omega
  refine ⟨fun f n hn hf hfit => ?_, fun f n hn hf hfit => ?_⟩
  · have hfK : K ≤ f := by
      refine Classical.byContradiction (fun hc => ?_)
      have := away f n hn (by omega) hfit (by omega)
      omega
    unfold TT
    rw [if_pos ⟨hfK, hn, by omega, hfit⟩, Vf_eq u z b S lg sp sh ph inn ct rv lk hn, if_neg (by omega)]
  · rcases Nat.lt_or_ge f K with hfK | hfK
    · have ha := away f n hn (by omega) hfit hfK
      have hco : ∀ m, co_ (TT u z b S lg sp sh ph inn ct rv lk K) z b S sp rv lk f n m = 1000000000 := by
        intro m
        have e : TT u z b S lg sp sh ph inn ct rv lk K (f + n) m = 1000000000 := by
          unfold TT
          rw [if_neg (by omega)]
        unfold co_
        rw [e, if_neg (by omega)]
      have hmb : mbF (co_ (TT u z b S lg sp sh ph inn ct rv lk K) z b S sp rv lk f n) (min 60 (u - (f + n))) = 1000000000 := by
        have := mbF_stay (g := co_ (TT u z b S lg sp sh ph inn ct rv lk K) z b S sp rv lk f n) (k := 0) (min 60 (u - (f + n))) (fun m _ _ => hco m)
        rw [Nat.zero_add] at this
        exact this
      rw [hmb, if_neg (by omega)]
      unfold TT
      rw [if_neg (by omega)]
    · obtain ⟨c1, c2⟩ := TT3 (S := S) (sh := sh) hO hM hK hn hf hfit hfK
      have q1 := mx_le (z := z) (b := b) (sp := sp) (lg := lg) (show f + n ≤ u by omega)
      have q2 := mx_le_lg (b := b) (lg := lg) hz1 hsp (show f + n ≤ u by omega)
      have q3 := mx_pos (lg := lg) hf (hK (f + n) (by omega) hf)
      have e1 := mbF_bm (g' := fun m => pr_ z b S sp rv lk f n m + Vf_ u z b S lg sp sh ph inn ct rv lk (f + n) m) _ q3 c1
      have e2 := mbF_stay (g := co_ (TT u z b S lg sp sh ph inn ct rv lk K) z b S sp rv lk f n) (k := mx_ u z b sp lg (f + n)) (min 60 (u - (f + n)) - mx_ u z b sp lg (f + n)) (fun m m1 m2 => c2 m m1 (by omega))
      rw [show mx_ u z b sp lg (f + n) + (min 60 (u - (f + n)) - mx_ u z b sp lg (f + n)) = min 60 (u - (f + n)) by omega] at e2
      have e3 := bm_spec (fun m => pr_ z b S sp rv lk f n m + Vf_ u z b S lg sp sh ph inn ct rv lk (f + n) m) _ q3
      have e4 := (c1 _ e3.1 e3.2.1).2
      have e5 := e3.2.2.1
      rw [e2, e1, if_pos (by omega)]
      have e6 : TT u z b S lg sp sh ph inn ct rv lk K f n = Vf_ u z b S lg sp sh ph inn ct rv lk f n := by
        unfold TT
        rw [if_pos ⟨hfK, hn, by omega, hfit⟩]
      rw [e6, Vf_eq u z b S lg sp sh ph inn ct rv lk hn, if_pos hf]
      omega
/-- the choice of the first line -/
theorem p_choose {ρ : St} {Q : Int32 → St → Prop} {M : Nat} {g : Nat → Nat} (hM : M ≤ 60) (ht : ∀ m, 1 ≤ m → m ≤ M → ρ 12 m = nI (g m)) (hg : ∀ m, g m ≤ 1000000000)
    (hF : ∀ v m, v ≤ 1000000000 → (∀ j, 1 ≤ j → j ≤ M → v ≤ g j) → (v < 1000000000 → 1 ≤ m ∧ m ≤ M ∧ g m = v ∧ ∀ j, m < j → j ≤ M → v < g j) → ((v < 1000000000 → ∃ k, wpl_X11_set_93 (nI v) Q k (up2 (up2 (up2 ρ 0 24 (nI 1)) 0 25 (nI 1)) 0 26 (nI 0)) (nI m) (nI 0)) ∧ (¬ v < 1000000000 → Q (-1) ρ))) :
    ∀ j v m, j ≤ M → v ≤ 1000000000 → (∀ i, j < i → i ≤ M → v ≤ g i) → (v < 1000000000 → j < m ∧ m ≤ M ∧ g m = v ∧ ∀ i, m < i → i ≤ M → v < g i) → wpl_X11_set_26 Q (j + 1) ρ (nI v) (nI m) (nI j) := by
  intro j
  induction j with
  | zero =>
    intro v m hj hv h1 h2
    unfold wpl_X11_set_26
    refine ⟨fun _ => ?_, fun q => absurd (Int32.le_refl _) q⟩
    have := hF v m hv (fun i i1 i2 => h1 i (by omega) i2) (fun q => by have := h2 q; exact ⟨by omega, this.2⟩)
    rw [nI_ltI (show v < 2 ^ 31 by omega) (show 1000000000 < 2 ^ 31 by decide)]
    exact this
  | succ j ih =>
    intro v m hj hv h1 h2
    have c1 : ¬ nI (j + 1) ≤ nI 0 := by simp (disch := omega) only [nI_add, nI_eq, nI_leI, nI_ltI, pk_sub, pk_mul, nI_clamp, nI_eqm1, nI_lt0, vp_in_iffN]; omega
    have c2 : vp_in (nI (j + 1)) 4941 := by simp (disch := omega) only [nI_add, nI_eq, nI_leI, nI_ltI, pk_sub, pk_mul, nI_clamp, nI_eqm1, nI_lt0, vp_in_iffN]; omega
    have hgj := hg (j + 1)
    have e1 : nI (g (j + 1)) < nI v ↔ g (j + 1) < v := nI_ltI (by omega) (by omega)
    have es : nI (j + 1) - nI 1 = nI j := by rw [pk_sub (by omega), Nat.add_sub_cancel]
    unfold wpl_X11_set_26
    simp only [c1, not_false_eq_true, true_implies, false_implies, true_and, wp_X11_place, pk_mul, nI_add, c2, nI_clamp (show j + 1 < 2 ^ 31 by omega), Nat.mul_zero, Nat.zero_add, ht (j + 1) (by omega) hj, e1, es]
    refine ⟨fun q => ?_, fun q => ?_⟩
    · refine ih (g (j + 1)) (j + 1) (by omega) hgj (fun i i1 i2 => ?_) (fun _ => ⟨by omega, hj, rfl, fun i i1 i2 => ?_⟩)
      · by_cases hi : i = j + 1
        · subst hi; exact Nat.le_refl _
        · have := h1 i (by omega) i2
          omega
      · have := h1 i (by omega) i2
        omega
    · refine ih v m (by omega) hv (fun i i1 i2 => ?_) (fun hv' => ?_)
      · by_cases hi : i = j + 1
        · subst hi; omega
        · exact h1 i (by omega) i2
      · have := h2 hv'
        exact ⟨by omega, this.2⟩
/-- the signs of a line -/
def sf_ (z : Nat → Nat) (b : Nat → Int32) (L : Nat → Nat → Int32) (sp u f n i : Nat) : Int32 := if i < B_ z b sp f n then sg_ z b L sp u (bg_ z b sp f + i) else nI 45
theorem p_keeps {ρ : St} {Q : St → Prop} (hO : OkT u z b L) (hM : OkM lg sp sh ph inn ct rv lk) (hU : MU ρ u z b L) (hm : MM ρ lg sp sh ph inn ct rv lk) {k f n : Nat} (hk : ρ 0 26 = nI k) (hk8 : k < 80) (hn : 1 ≤ n) (hf : f + n ≤ u) (hfit : NS_ z b sp f n ≤ lg)
    (hQ : ∀ ρ' : St, (∀ c, c ≠ 0 → c ≠ 10 → c < 13 ∨ 16 < c → ρ' c = ρ c) → (∀ i, i ≠ 26 → ρ' 0 i = ρ 0 i) → ρ' 0 26 = nI (k + 1) → ρ' 13 = upd (ρ 13) k (nI f) → ρ' 14 = upd (ρ 14) k (nI n) → ρ' 15 = upd (ρ 15) k (nI (NS_ z b sp f n)) → (∀ i, i < NS_ z b sp f n → ρ' 16 (60 * k + i) = sf_ z b L sp u f n i) → (∀ j, j < 60 * k → ρ' 16 j = ρ 16 j) → Q ρ') : wp_X11_keeps ρ (nI f) (nI n) Q := by
  have hu := hO.1
  have hlg := hM.2.1
  unfold wp_X11_keeps
  refine p_lays10 (lg := lg) hO hU hm.1 hm.2.1 hlg hM.2.2.2.1 hM.2.2.1 hn hf (fun g a1 a2 _ => ?_) (fun g a => absurd hfit a)
  have e26 : (upA ρ 10 g) 0 26 = nI k := hk
  have ck : vp_in (nI k) 80 := by simp (disch := omega) only [nI_add, nI_eq, nI_leI, nI_ltI, pk_sub, pk_mul, nI_clamp, nI_eqm1, nI_lt0, vp_in_iffN]; omega
  simp only [e26, ck, nI_clamp (show k < 2 ^ 31 by omega), true_and]
  have key : ∀ d i (h : Nat → Int32), i + d = NS_ z b sp f n → (∀ j, j < i → h (60 * k + j) = sf_ z b L sp u f n j) → (∀ j, j < 60 * k → h j = ρ 16 j) → wpl_X11_keeps_44 (nI f) (nI n) (nI (NS_ z b sp f n)) Q (d + 1) (upA (up2 (up2 (up2 (upA ρ 10 g) 13 k (nI f)) 14 k (nI n)) 15 k (nI (NS_ z b sp f n))) 16 h) (nI i) := by
    intro d
    induction d with
    | zero =>
      intro i h hi h1 h2
      obtain rfl : i = NS_ z b sp f n := by omega
      unfold wpl_X11_keeps_44
      refine ⟨fun _ => ?_, fun q => absurd (Int32.le_refl _) q⟩
      have e : (upA (up2 (up2 (up2 (upA ρ 10 g) 13 k (nI f)) 14 k (nI n)) 15 k (nI (NS_ z b sp f n))) 16 h) 0 26 = nI k := hk
      rw [e, nI_add]
      refine hQ _ (fun c h0 h10 h13 => ?_) (fun i hi => ?_) ?_ rfl rfl rfl h1 h2
      · rw [up2_ne h0, upA_ne (by omega), up2_ne (by omega), up2_ne (by omega), up2_ne (by omega), upA_ne (by omega)]
      · rw [up2_same, upd_ne hi]
        rfl
      · rw [up2_same, upd_same]
    | succ d ih =>
      intro i h hi h1 h2
      have c1 : ¬ nI (NS_ z b sp f n) ≤ nI i := by simp (disch := omega) only [nI_add, nI_eq, nI_leI, nI_ltI, pk_sub, pk_mul, nI_clamp, nI_eqm1, nI_lt0, vp_in_iffN]; omega
      have c2 : vp_in (nI i) 200 := by simp (disch := omega) only [nI_add, nI_eq, nI_leI, nI_ltI, pk_sub, pk_mul, nI_clamp, nI_eqm1, nI_lt0, vp_in_iffN]; omega
      have c3 : vp_in (nI (60 * k + i)) 4800 := by simp (disch := omega) only [nI_add, nI_eq, nI_leI, nI_ltI, pk_sub, pk_mul, nI_clamp, nI_eqm1, nI_lt0, vp_in_iffN]; omega
      have e : (upA (up2 (up2 (up2 (upA ρ 10 g) 13 k (nI f)) 14 k (nI n)) 15 k (nI (NS_ z b sp f n))) 16 h) 0 26 = nI k := hk
      have e10 : (upA (up2 (up2 (up2 (upA ρ 10 g) 13 k (nI f)) 14 k (nI n)) 15 k (nI (NS_ z b sp f n))) 16 h) 10 i = g i := rfl
      unfold wpl_X11_keeps_44
      simp only [c1, c2, e, e10, pk_mul, nI_add, c3, nI_clamp (show 60 * k + i < 2 ^ 31 by omega), nI_clamp (show i < 2 ^ 31 by omega), not_false_eq_true, true_implies, false_implies, true_and]
      rw [u2A]
      refine ih (i + 1) _ (by omega) (fun j hj => ?_) (fun j hj => ?_)
      · by_cases hji : j = i
        · subst hji
          rw [upd_same]
          unfold sf_
          split
          · rename_i q; exact a1 j q
          · rename_i q
            have hb : b (f + n - 1) = nI 45 := by
              unfold NS_ jt_ at hi
              split at hi
              · assumption
              · omega
            have hj2 : j = B_ z b sp f n := by
              unfold NS_ at hi
              have := jt_le b (f + n - 1)
              omega
            rw [hj2]
            exact a2 hb
        · rw [upd_ne (by omega)]
          exact h1 j (by omega)
      · rw [upd_ne (by omega)]
        exact h2 j hj
  refine ⟨NS_ z b sp f n + 1, ?_⟩
  have := key (NS_ z b sp f n) 0 (ρ 16) (by omega) (fun j hj => by omega) (fun j _ => rfl)
  have e : upA (up2 (up2 (up2 (upA ρ 10 g) 13 k (nI f)) 14 k (nI n)) 15 k (nI (NS_ z b sp f n))) 16 (ρ 16) = up2 (up2 (up2 (upA ρ 10 g) 13 k (nI f)) 14 k (nI n)) 15 k (nI (NS_ z b sp f n)) := by
    funext c
    by_cases hc : c = 16
    · subst hc; rfl
    · rw [upA_ne hc]
  rw [e] at this
  exact this
end STM
