/-! the reference's set(), whole -/
theorem MU_fr {τ ρ : St} {u : Nat} {z : Nat → Nat} {b : Nat → Int32} {L : Nat → Nat → Int32} (h0 : ρ 0 0 = τ 0 0) (h1 : ρ 1 = τ 1) (h2 : ρ 2 = τ 2) (h3 : ρ 3 = τ 3) (h4 : ρ 4 = τ 4) (h : MU τ u z b L) : MU ρ u z b L := by
  unfold MU at h ⊢
  rw [h0, h1, h2, h3, h4]
  exact h
theorem MM_fr {τ ρ : St} {lg sp sh ph inn ct rv : Nat} {lk : Nat → Nat → Nat} (h0 : ∀ i, i < 24 → ρ 0 i = τ 0 i) (h9 : ρ 9 = τ 9) (h : MM τ lg sp sh ph inn ct rv lk) : MM ρ lg sp sh ph inn ct rv lk := by
  unfold MM at h ⊢
  rw [h0 13 (by omega), h0 14 (by omega), h0 15 (by omega), h0 16 (by omega), h0 17 (by omega), h0 18 (by omega), h0 19 (by omega), h9]
  exact h
section STM2
variable {u : Nat} {z : Nat → Nat} {b : Nat → Int32} {L : Nat → Nat → Int32} {lg sp sh ph inn ct rv : Nat} {lk : Nat → Nat → Nat}
def SI (τ : St) (f12 : Nat → Int32) (u : Nat) (z : Nat → Nat) (b : Nat → Int32) (L : Nat → Nat → Int32) (sp : Nat) (fs mn : Nat → Nat) (k : Nat) (ρ : St) : Prop :=
  (∀ c, c ≠ 0 → c < 10 ∨ 16 < c → ρ c = τ c) ∧ (∀ i, i < 24 ∨ 26 < i → ρ 0 i = τ 0 i) ∧ ρ 0 24 = nI 1 ∧ ρ 0 25 = nI 1 ∧ ρ 0 26 = nI k ∧ ρ 12 = f12 ∧
  ∀ j, j < k → ρ 13 j = nI (fs j) ∧ ρ 14 j = nI (mn j) ∧ ρ 15 j = nI (NS_ z b sp (fs j) (mn j)) ∧ ∀ i, i < NS_ z b sp (fs j) (mn j) → ρ 16 (60 * j + i) = sf_ z b L sp u (fs j) (mn j) i
theorem SI_MU {τ ρ : St} {f12 : Nat → Int32} {fs mn : Nat → Nat} {k : Nat} (h : SI τ f12 u z b L sp fs mn k ρ) (hU : MU τ u z b L) : MU ρ u z b L :=
  MU_fr (h.2.1 0 (by omega)) (h.1 1 (by omega) (by omega)) (h.1 2 (by omega) (by omega)) (h.1 3 (by omega) (by omega)) (h.1 4 (by omega) (by omega)) hU
theorem SI_MM {τ ρ : St} {f12 : Nat → Int32} {fs mn : Nat → Nat} {k : Nat} (h : SI τ f12 u z b L sp fs mn k ρ) (hm : MM τ lg sp sh ph inn ct rv lk) : MM ρ lg sp sh ph inn ct rv lk :=
  MM_fr (fun i hi => h.2.1 i (by omega)) (h.1 9 (by omega) (by omega)) hm
theorem SI_10 {τ ρ : St} {f12 g : Nat → Int32} {fs mn : Nat → Nat} {k : Nat} (h : SI τ f12 u z b L sp fs mn k ρ) : SI τ f12 u z b L sp fs mn k (upA ρ 10 g) :=
  ⟨fun c h1 h2 => by rw [upA_ne (by omega)]; exact h.1 c h1 h2, h.2⟩
theorem SI_11 {τ ρ : St} {f12 g : Nat → Int32} {fs mn : Nat → Nat} {k : Nat} (h : SI τ f12 u z b L sp fs mn k ρ) : SI τ f12 u z b L sp fs mn k (upA ρ 11 g) :=
  ⟨fun c h1 h2 => by rw [upA_ne (by omega)]; exact h.1 c h1 h2, h.2⟩
theorem p_setLoop {τ : St} {f12 : Nat → Int32} {Q : Int32 → St → Prop} (x1 : Int32) (hO : OkT u z b L) (hM : OkM lg sp sh ph inn ct rv lk) (hU : MU τ u z b L) (hm : MM τ lg sp sh ph inn ct rv lk) (hfit : ∀ k, k < u → NS_ z b sp k 1 ≤ lg)
    (ht : ∀ g m, g < u → 1 ≤ m → m ≤ min 60 (u - g) → f12 (61 * g + m) = nI (TT u z b (sg_ z b L sp u) lg sp sh ph inn ct rv lk 0 g m))
    {nl : Nat} (hnl : nl ≤ u) (hl : (ln_ u z b (sg_ z b L sp u) lg sp sh ph inn ct rv lk nl).1 = u) (hl2 : ∀ i, i < nl → (ln_ u z b (sg_ z b L sp u) lg sp sh ph inn ct rv lk i).1 < u)
    (hQ : ∀ ρ, SI τ f12 u z b L sp (fun i => (ln_ u z b (sg_ z b L sp u) lg sp sh ph inn ct rv lk i).1) (fun i => (ln_ u z b (sg_ z b L sp u) lg sp sh ph inn ct rv lk i).2) nl ρ → Q x1 ρ) :
    ∀ d k ρ x2, k + d = nl → (k < nl → x2 = nI (ln_ u z b (sg_ z b L sp u) lg sp sh ph inn ct rv lk k).2) → SI τ f12 u z b L sp (fun i => (ln_ u z b (sg_ z b L sp u) lg sp sh ph inn ct rv lk i).1) (fun i => (ln_ u z b (sg_ z b L sp u) lg sp sh ph inn ct rv lk i).2) k ρ → wpl_X11_set_93 x1 Q (d + 1) ρ x2 (nI (ln_ u z b (sg_ z b L sp u) lg sp sh ph inn ct rv lk k).1) := by
  have hu := hO.1
  have hz1 : ∀ k, k < u → 1 ≤ z k := fun j hj => (hO.2 j hj).1
  have hlg := hM.2.1
  have hsp := hM.2.2.1
  intro d
  induction d with
  | zero =>
    intro k ρ x2 hk _ hS
    obtain rfl : k = nl := by omega
    have e0 : ρ 0 0 = nI u := (SI_MU hS hU).1
    unfold wpl_X11_set_93
    rw [hl, e0]
    exact ⟨fun _ => hQ ρ hS, fun q => absurd (Int32.le_refl _) q⟩
  | succ d ih =>
    intro k ρ x2 hk hx hS
    obtain rfl := hx (by omega)
    have hku := hl2 k (by omega)
    obtain ⟨o1, o2, -⟩ := ln_ok (S := sg_ z b L sp u) (sh := sh) (ph := ph) (inn := inn) (ct := ct) (rv := rv) (lk := lk) hfit k
    have p2 := (o2 hku).1
    have p3 := (o2 hku).2
    clear o2
    have nx := ih (k + 1)
    have en : ln_ u z b (sg_ z b L sp u) lg sp sh ph inn ct rv lk (k + 1) = ((ln_ u z b (sg_ z b L sp u) lg sp sh ph inn ct rv lk k).1 + (ln_ u z b (sg_ z b L sp u) lg sp sh ph inn ct rv lk k).2, (bm_ (fun m => pr_ z b (sg_ z b L sp u) sp rv lk (ln_ u z b (sg_ z b L sp u) lg sp sh ph inn ct rv lk k).1 (ln_ u z b (sg_ z b L sp u) lg sp sh ph inn ct rv lk k).2 m + Vf_ u z b (sg_ z b L sp u) lg sp sh ph inn ct rv lk ((ln_ u z b (sg_ z b L sp u) lg sp sh ph inn ct rv lk k).1 + (ln_ u z b (sg_ z b L sp u) lg sp sh ph inn ct rv lk k).2) m) (mx_ u z b sp lg ((ln_ u z b (sg_ z b L sp u) lg sp sh ph inn ct rv lk k).1 + (ln_ u z b (sg_ z b L sp u) lg sp sh ph inn ct rv lk k).2))).2) := rfl
    rw [en] at nx
    generalize hF : (ln_ u z b (sg_ z b L sp u) lg sp sh ph inn ct rv lk k).1 = F at *
    generalize hN : (ln_ u z b (sg_ z b L sp u) lg sp sh ph inn ct rv lk k).2 = N at *
    have mxu := mx_le (z := z) (b := b) (sp := sp) (lg := lg) (show F ≤ u by omega)
    have mxl := mx_le_lg (b := b) (lg := lg) hz1 hsp (show F ≤ u by omega)
    have fitN := mx_fit (z := z) (b := b) (lg := lg) hz1 hsp o1 p2 p3
    have e0 : ρ 0 0 = nI u := (SI_MU hS hU).1
    have cu : ¬ nI u ≤ nI F := by simp (disch := omega) only [nI_add, nI_eq, nI_leI, nI_ltI, pk_sub, pk_mul, nI_clamp, nI_eqm1, nI_lt0, vp_in_iffN]; omega
    unfold wpl_X11_set_93
    simp only [e0, cu, not_false_eq_true, true_implies, false_implies, true_and]
    refine p_keeps (k := k) hO hM (SI_MU hS hU) (SI_MM hS hm) hS.2.2.2.2.1 (by omega) p2 (by omega) fitN (fun ρ1 r1 r2 r3 r4 r5 r6 r7 r8 => ?_)
    have hS1 : SI τ f12 u z b L sp (fun i => (ln_ u z b (sg_ z b L sp u) lg sp sh ph inn ct rv lk i).1) (fun i => (ln_ u z b (sg_ z b L sp u) lg sp sh ph inn ct rv lk i).2) (k + 1) ρ1 := by
      obtain ⟨s1, s2, s3, s4, s5, s6, s7⟩ := hS
      refine ⟨fun c c1 c2 => by rw [r1 c c1 (by omega) (by omega)]; exact s1 c c1 c2, fun i hi => by rw [r2 i (by omega)]; exact s2 i hi, by rw [r2 24 (by omega)]; exact s3, by rw [r2 25 (by omega)]; exact s4, r3, by rw [r1 12 (by omega) (by omega) (by omega)]; exact s6, fun j hj => ?_⟩
      rw [r4, r5, r6]
      by_cases hjk : j = k
      · subst hjk
        rw [upd_same, upd_same, upd_same]
        simp only
        rw [hF, hN]
        exact ⟨rfl, rfl, rfl, r7⟩
      · obtain ⟨t1, t2, t3, t4⟩ := s7 j (by omega)
        obtain ⟨v1, v2, -⟩ := ln_ok (S := sg_ z b L sp u) (sh := sh) (ph := ph) (inn := inn) (ct := ct) (rv := rv) (lk := lk) hfit j
        have v3 := v2 (hl2 j (by omega))
        have v4 := mx_fit (z := z) (b := b) (lg := lg) hz1 hsp v1 v3.1 v3.2
        rw [upd_ne hjk, upd_ne hjk, upd_ne hjk]
        exact ⟨t1, t2, t3, fun i hi => by simp only at hi; rw [r8 _ (by omega)]; exact t4 i hi⟩
    have e01 : ρ1 0 0 = nI u := (SI_MU hS1 hU).1
    have cu2 : nI u ≤ nI (F + N) ↔ u ≤ F + N := nI_leI (by omega) (by omega)
    simp only [e01, nI_add F N, cu2]
    refine ⟨fun q => ?_, fun q => ?_⟩
    · exact nx ρ1 (nI N) (by omega) (fun h => by have := hl2 (k + 1) h; rw [en] at this; simp only at this; omega) hS1
    · refine p_lays10 (lg := lg) hO (SI_MU hS1 hU) (SI_MM hS1 hm).1 (SI_MM hS1 hm).2.1 hlg hM.2.2.2.1 hsp p2 (by omega) (fun g a1 a2 _ => ?_) (fun g a => absurd fitN a)
      have hS2 : SI τ f12 u z b L sp (fun i => (ln_ u z b (sg_ z b L sp u) lg sp sh ph inn ct rv lk i).1) (fun i => (ln_ u z b (sg_ z b L sp u) lg sp sh ph inn ct rv lk i).2) (k + 1) (upA ρ1 10 g) := SI_10 hS1
      have cf : vp_in (nI (61 * F + N)) 4941 := by simp (disch := omega) only [nI_add, nI_eq, nI_leI, nI_ltI, pk_sub, pk_mul, nI_clamp, nI_eqm1, nI_lt0, vp_in_iffN]; omega
      have e12 : (upA ρ1 10 g) 12 = f12 := hS2.2.2.2.2.2.1
      have e00 : (upA ρ1 10 g) 0 0 = nI u := e01
      simp only [wp_X11_place, pk_mul, nI_add, cf, nI_clamp (show 61 * F + N < 2 ^ 31 by omega), true_and, e12, ht F N hku p2 (by omega)]
      rw [e_lineStrain hO (SI_MU hS2 hU) (SI_MM hS2 hm) p2 (by omega) fitN, e_most hu e00 (show F + N ≤ u by omega)]
      obtain ⟨c1, c2⟩ := TT3 (S := sg_ z b L sp u) (sh := sh) hO hM (K := 0) (fun k _ hk => hfit k hk) p2 (show F + N < u by omega) fitN (Nat.zero_le _)
      have q1 := mx_le (z := z) (b := b) (sp := sp) (lg := lg) (show F + N ≤ u by omega)
      have q2 := mx_le_lg (b := b) (lg := lg) hz1 hsp (show F + N ≤ u by omega)
      have q3 := mx_pos (lg := lg) (show F + N < u by omega) (hfit (F + N) (by omega))
      have e3 := bm_spec (fun m => pr_ z b (sg_ z b L sp u) sp rv lk F N m + Vf_ u z b (sg_ z b L sp u) lg sp sh ph inn ct rv lk (F + N) m) _ q3
      have eT : TT u z b (sg_ z b L sp u) lg sp sh ph inn ct rv lk 0 F N = ls_ z b lg sp sh ph inn ct F N + (bm_ (fun m => pr_ z b (sg_ z b L sp u) sp rv lk F N m + Vf_ u z b (sg_ z b L sp u) lg sp sh ph inn ct rv lk (F + N) m) (mx_ u z b sp lg (F + N))).1 := by
        unfold TT
        rw [if_pos ⟨Nat.zero_le _, p2, by omega, fitN⟩, Vf_eq u z b _ lg sp sh ph inn ct rv lk p2, if_pos (by omega)]
      rw [eT, pk_sub (Nat.le_add_right _ _), Nat.add_sub_cancel_left]
      generalize hbm : bm_ (fun m => pr_ z b (sg_ z b L sp u) sp rv lk F N m + Vf_ u z b (sg_ z b L sp u) lg sp sh ph inn ct rv lk (F + N) m) (mx_ u z b sp lg (F + N)) = BM at *
      obtain ⟨bv, bi⟩ := BM
      obtain ⟨i1, i2, i3, i4, i5⟩ := e3
      simp only at i1 i2 i3 i4 i5 nx
      have hbv := (c1 bi i1 i2).2
      have loop : ∀ d2 m ρ2, m = bi + d2 → m ≤ min 60 (u - (F + N)) → SI τ f12 u z b L sp (fun i => (ln_ u z b (sg_ z b L sp u) lg sp sh ph inn ct rv lk i).1) (fun i => (ln_ u z b (sg_ z b L sp u) lg sp sh ph inn ct rv lk i).2) (k + 1) ρ2 → ρ2 10 = g → wpl_X11_set_163 x1 (nI N) (nI F) (nI (F + N)) (nI (NS_ z b sp F N)) (nI bv) (wpl_X11_set_93 x1 Q (d + 1)) Q (d2 + 1) ρ2 (nI m) := by
        intro d2
        induction d2 with
        | zero =>
          intro m ρ2 hm1 hm2 hS3 hg
          obtain rfl : m = bi := by omega
          unfold wpl_X11_set_163
          refine p_costOf (t := TT u z b (sg_ z b L sp u) lg sp sh ph inn ct rv lk 0 (F + N) m) hO hM (SI_MU hS3 hU) (SI_MM hS3 hm) p2 i1 (by omega) (by omega) (by rw [hS3.2.2.2.2.2.1]; exact ht _ _ (by omega) i1 (by omega)) (TT_le hO hM) (fun _ => mx_fit hz1 hsp (by omega) i1 i2) fitN (by rw [hg]; exact a1) (by rw [hg]; exact a2) (fun g' => ?_)
          have ec := (c1 m i1 i2).1
          unfold co_ at ec
          rw [ec, i3]
          exact ⟨fun _ => nx _ _ (by omega) (fun _ => rfl) (SI_11 hS3), fun q => absurd rfl q⟩
        | succ d2 ih2 =>
          intro m ρ2 hm1 hm2 hS3 hg
          unfold wpl_X11_set_163
          refine p_costOf (t := TT u z b (sg_ z b L sp u) lg sp sh ph inn ct rv lk 0 (F + N) m) hO hM (SI_MU hS3 hU) (SI_MM hS3 hm) p2 (by omega) (by omega) (by omega) (by rw [hS3.2.2.2.2.2.1]; exact ht _ _ (by omega) (by omega) (by omega)) (TT_le hO hM) (fun hh => ?_) fitN (by rw [hg]; exact a1) (by rw [hg]; exact a2) (fun g' => ?_)
          · unfold TT at hh
            split at hh
            · rename_i q; exact q.2.2.2
            · omega
          · have hne : (if TT u z b (sg_ z b L sp u) lg sp sh ph inn ct rv lk 0 (F + N) m < 1000000000 then pr_ z b (sg_ z b L sp u) sp rv lk F N m + TT u z b (sg_ z b L sp u) lg sp sh ph inn ct rv lk 0 (F + N) m else 1000000000) = co_ (TT u z b (sg_ z b L sp u) lg sp sh ph inn ct rv lk 0) z b (sg_ z b L sp u) sp rv lk F N m := rfl
            rw [hne]
            have hle := co_le (T := TT u z b (sg_ z b L sp u) lg sp sh ph inn ct rv lk 0) (z := z) (b := b) (S := sg_ z b L sp u) (f := F) (n := N) (m := m) hM fitN
            have hgt : bv < co_ (TT u z b (sg_ z b L sp u) lg sp sh ph inn ct rv lk 0) z b (sg_ z b L sp u) sp rv lk F N m := by
              rcases Nat.lt_or_ge (mx_ u z b sp lg (F + N)) m with hmx | hmx
              · rw [c2 m hmx (by omega)]; omega
              · rw [(c1 m (by omega) hmx).1]
                exact i5 m (by omega) hmx
            refine ⟨fun q => ?_, fun _ => ?_⟩
            · have := nI_inj (by omega) (by omega) q
              omega
            · rw [pk_sub (show 1 ≤ m by omega)]
              exact ih2 (m - 1) _ (by omega) (by omega) (SI_11 hS3) hg
      exact ⟨min 60 (u - (F + N)) - bi + 1, loop (min 60 (u - (F + N)) - bi) _ _ (by omega) (Nat.le_refl _) hS2 rfl⟩
theorem p_setFit {τ : St} {Q : Int32 → St → Prop} (hO : OkT u z b L) (hM : OkM lg sp sh ph inn ct rv lk) (hU : MU τ u z b L) (hm : MM τ lg sp sh ph inn ct rv lk) (hfit : ∀ k, k < u → NS_ z b sp k 1 ≤ lg)
    {nl : Nat} (hnl : nl ≤ u) (hl : (ln_ u z b (sg_ z b L sp u) lg sp sh ph inn ct rv lk nl).1 = u) (hl2 : ∀ i, i < nl → (ln_ u z b (sg_ z b L sp u) lg sp sh ph inn ct rv lk i).1 < u)
    (hQ : ∀ f12 ρ, SI τ f12 u z b L sp (fun i => (ln_ u z b (sg_ z b L sp u) lg sp sh ph inn ct rv lk i).1) (fun i => (ln_ u z b (sg_ z b L sp u) lg sp sh ph inn ct rv lk i).2) nl ρ → Q (nI (bm_ (fun m => Vf_ u z b (sg_ z b L sp u) lg sp sh ph inn ct rv lk 0 m) (mx_ u z b sp lg 0)).1) ρ) : wp_X11_set τ Q := by
  have hu := hO.1
  have hz1 : ∀ k, k < u → 1 ≤ z k := fun j hj => (hO.2 j hj).1
  have hlg := hM.2.1
  have hsp := hM.2.2.1
  obtain ⟨R2, R3⟩ := TT_rec (S := sg_ z b L sp u) (sh := sh) hO hM (K := 0) (fun k _ hk => hfit k hk) (Nat.zero_le _) (fun h => absurd h (Nat.lt_irrefl _))
  unfold wp_X11_set
  refine p_weighs (T := TT u z b (sg_ z b L sp u) lg sp sh ph inn ct rv lk 0) hO hM hU hm (fun f n _ _ h => by unfold TT; rw [if_neg (fun q => h q.2.2.2)]) R2 R3 (fun f n => TT_le hO hM) (fun g10 g11 f12 ht => ?_)
  have e0 : (s3 τ g10 g11 f12) 0 0 = nI u := hU.1
  have S0 : SI τ f12 u z b L sp (fun i => (ln_ u z b (sg_ z b L sp u) lg sp sh ph inn ct rv lk i).1) (fun i => (ln_ u z b (sg_ z b L sp u) lg sp sh ph inn ct rv lk i).2) 0 (up2 (up2 (up2 (s3 τ g10 g11 f12) 0 24 (nI 1)) 0 25 (nI 1)) 0 26 (nI 0)) := by
    refine ⟨fun c c1 c2 => ?_, fun i hi => ?_, rfl, rfl, rfl, rfl, fun j hj => absurd hj (Nat.not_lt_zero _)⟩
    · rw [up2_ne c1, up2_ne c1, up2_ne c1]
      unfold s3
      rw [upA_ne (by omega), upA_ne (by omega), upA_ne (by omega)]
    · rw [up2_same, upd_ne (by omega), up2_same, upd_ne (by omega), up2_same, upd_ne (by omega)]
      rfl
  have main := p_setLoop (f12 := f12) (nI (bm_ (fun m => Vf_ u z b (sg_ z b L sp u) lg sp sh ph inn ct rv lk 0 m) (mx_ u z b sp lg 0)).1) hO hM hU hm hfit ht hnl hl hl2 (fun ρ hρ => hQ f12 ρ hρ) nl 0 _ _ (by omega) (fun _ => rfl) S0
  have el0 : (ln_ u z b (sg_ z b L sp u) lg sp sh ph inn ct rv lk 0) = (0, (bm_ (fun m => Vf_ u z b (sg_ z b L sp u) lg sp sh ph inn ct rv lk 0 m) (mx_ u z b sp lg 0)).2) := rfl
  rw [el0] at main
  simp only at main
  have eu : nI u = nI 0 ↔ u = 0 := nI_eq (by omega) (by omega)
  rw [e_most hu e0 (Nat.zero_le _), e_most hu e0 (Nat.zero_le _), e0, eu]
  refine ⟨fun hu0 => ⟨min 60 (u - 0) + 1, ?_⟩, fun hu0 => ⟨1, ?_⟩⟩
  · have q1 := mx_le (z := z) (b := b) (sp := sp) (lg := lg) (show 0 ≤ u by omega)
    have q2 := mx_le_lg (b := b) (lg := lg) hz1 hsp (show 0 ≤ u by omega)
    have q3 := mx_pos (lg := lg) (show 0 < u by omega) (hfit 0 (by omega))
    have inT : ∀ m, 1 ≤ m → m ≤ mx_ u z b sp lg 0 → TT u z b (sg_ z b L sp u) lg sp sh ph inn ct rv lk 0 0 m = Vf_ u z b (sg_ z b L sp u) lg sp sh ph inn ct rv lk 0 m := by
      intro m m1 m2
      unfold TT
      rw [if_pos ⟨Nat.le_refl _, m1, by omega, mx_fit hz1 hsp (Nat.zero_le _) m1 m2⟩]
    have outT : ∀ m, mx_ u z b sp lg 0 < m → TT u z b (sg_ z b L sp u) lg sp sh ph inn ct rv lk 0 0 m = 1000000000 := by
      intro m m1
      unfold TT
      rw [if_neg (fun q => mx_out m1 q.2.2.1 q.2.2.2)]
    refine p_choose (ρ := s3 τ g10 g11 f12) (M := min 60 (u - 0)) (g := TT u z b (sg_ z b L sp u) lg sp sh ph inn ct rv lk 0 0) (by omega) (fun m m1 m2 => ?_) (fun m => TT_le hO hM) (fun v m v1 v2 v3 => ?_) (min 60 (u - 0)) 1000000000 0 (Nat.le_refl _) (Nat.le_refl _) (fun i i1 i2 => by omega) (fun h => absurd h (Nat.lt_irrefl _))
    · have := ht 0 m (by omega) m1 m2
      rw [Nat.mul_zero, Nat.zero_add] at this
      exact this
    · have w1 := v2 1 (Nat.le_refl _) (by omega)
      rw [inT 1 (Nat.le_refl _) q3] at w1
      have w2 := Vf_bd (S := sg_ z b L sp u) (sh := sh) hO hM (show 0 + 1 ≤ u by omega) (hfit 0 (by omega))
      have hv : v < 1000000000 := by omega
      refine ⟨fun _ => ?_, fun q => absurd hv q⟩
      obtain ⟨x1, x2, x3, x4⟩ := v3 hv
      have hmx : m ≤ mx_ u z b sp lg 0 := by
        refine Classical.byContradiction (fun hc => ?_)
        rw [outT m (by omega)] at x3
        omega
      obtain ⟨y1, y2⟩ := bm_uniq (g := fun m => Vf_ u z b (sg_ z b L sp u) lg sp sh ph inn ct rv lk 0 m) (v := v) (m := m) q3 x1 hmx (by rw [← inT m x1 hmx]; exact x3) (fun j j1 j2 => by have := v2 j j1 (by omega); rw [inT j j1 j2] at this; exact this) (fun j j1 j2 => by have := x4 j j1 (by omega); rw [inT j (by omega) j2] at this; exact this)
      rw [y1, y2]
      exact ⟨_, main⟩
  · subst hu0
    have e1 : (bm_ (fun m => Vf_ 0 z b (sg_ z b L sp 0) lg sp sh ph inn ct rv lk 0 m) (mx_ 0 z b sp lg 0)) = (0, 0) := by rw [mx_self]; rfl
    rw [e1] at main
    unfold wpl_X11_set_26
    exact ⟨fun _ => ⟨fun _ => ⟨_, main⟩, fun q => absurd (by decide) q⟩, fun q => absurd (by decide) q⟩
theorem p_setNo {τ : St} {Q : Int32 → St → Prop} (hO : OkT u z b L) (hM : OkM lg sp sh ph inn ct rv lk) (hU : MU τ u z b L) (hm : MM τ lg sp sh ph inn ct rv lk) {k0 : Nat} (hk0 : k0 < u) (hno : ¬ NS_ z b sp k0 1 ≤ lg)
    (hQ : ∀ g10 g11 f12, Q (-1) (s3 τ g10 g11 f12)) : wp_X11_set τ Q := by
  have hu := hO.1
  obtain ⟨K, k1, k2, k3⟩ := lastbad (fun k => NS_ z b sp k 1 ≤ lg) u
  have hK : 0 < K := by
    refine Classical.byContradiction (fun hc => ?_)
    exact hno (k2 k0 (by omega) hk0)
  obtain ⟨R2, R3⟩ := TT_rec (S := sg_ z b L sp u) (sh := sh) hO hM k2 k1 k3
  unfold wp_X11_set
  refine p_weighs (T := TT u z b (sg_ z b L sp u) lg sp sh ph inn ct rv lk K) hO hM hU hm (fun f n _ _ h => by unfold TT; rw [if_neg (fun q => h q.2.2.2)]) R2 R3 (fun f n => TT_le hO hM) (fun g10 g11 f12 ht => ?_)
  have e0 : (s3 τ g10 g11 f12) 0 0 = nI u := hU.1
  have eu : nI u = nI 0 ↔ u = 0 := nI_eq (by omega) (by omega)
  rw [e_most hu e0 (Nat.zero_le _), e_most hu e0 (Nat.zero_le _), e0, eu]
  refine ⟨fun hu0 => ⟨min 60 (u - 0) + 1, ?_⟩, fun hu0 => by omega⟩
  have outT : ∀ m, TT u z b (sg_ z b L sp u) lg sp sh ph inn ct rv lk K 0 m = 1000000000 := by
    intro m
    unfold TT
    rw [if_neg (by omega)]
  refine p_choose (ρ := s3 τ g10 g11 f12) (M := min 60 (u - 0)) (g := TT u z b (sg_ z b L sp u) lg sp sh ph inn ct rv lk K 0) (by omega) (fun m m1 m2 => ?_) (fun m => TT_le hO hM) (fun v m v1 v2 v3 => ?_) (min 60 (u - 0)) 1000000000 0 (Nat.le_refl _) (Nat.le_refl _) (fun i i1 i2 => by omega) (fun h => absurd h (Nat.lt_irrefl _))
  · have := ht 0 m (by omega) m1 m2
    rw [Nat.mul_zero, Nat.zero_add] at this
    exact this
  · refine ⟨fun hv => ?_, fun _ => hQ g10 g11 f12⟩
    obtain ⟨x1, x2, x3, x4⟩ := v3 hv
    rw [outT m] at x3
    omega
end STM2
