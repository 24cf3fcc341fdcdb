/-! rivers -/
/-- how many blanks stand above one another at place i up to line k -/
def rn (ns : Nat → Nat) (sg : Nat → Nat → Int32) (i : Nat) : Nat → Nat
  | 0 => 0
  | k + 1 => if i < ns k ∧ sg k i = nI 32 then rn ns sg i k + 1 else 0
/-- the class's count: as soon as a row is long enough -/
def cc_ (ns : Nat → Nat) (sg : Nat → Nat → Int32) (N i : Nat) : Nat → Nat
  | 0 => 0
  | k + 1 => cc_ ns sg N i k + (if rn ns sg i (k + 1) = N + 1 then 1 else 0)
/-- the reference's: at a row's end -/
def mc_ (ns : Nat → Nat) (sg : Nat → Nat → Int32) (N i : Nat) : Nat → Nat
  | 0 => 0
  | k + 1 => mc_ ns sg N i k + (if ¬ (i < ns k ∧ sg k i = nI 32) ∧ N < rn ns sg i k then 1 else 0)
theorem rn_le (ns : Nat → Nat) (sg : Nat → Nat → Int32) (i : Nat) : ∀ k, rn ns sg i k ≤ k
  | 0 => Nat.le_refl 0
  | k + 1 => by
    have := rn_le ns sg i k
    simp only [rn]
    split <;> omega
theorem cc_le (ns : Nat → Nat) (sg : Nat → Nat → Int32) (N i : Nat) : ∀ k, cc_ ns sg N i k ≤ k
  | 0 => Nat.le_refl 0
  | k + 1 => by
    have := cc_le ns sg N i k
    simp only [cc_]
    split <;> omega
theorem cc_mc (ns : Nat → Nat) (sg : Nat → Nat → Int32) (N i : Nat) : ∀ k, cc_ ns sg N i k = mc_ ns sg N i k + (if N < rn ns sg i k then 1 else 0)
  | 0 => by simp [cc_, mc_, rn]
  | k + 1 => by
    have := cc_mc ns sg N i k
    simp only [cc_, mc_, this]
    by_cases hb : i < ns k ∧ sg k i = nI 32
    · simp only [rn, hb, and_self, if_true, not_true_eq_false, false_and, if_false]
      by_cases h1 : N < rn ns sg i k
      · rw [if_pos h1, if_neg (by omega), if_pos (by omega)]
      · by_cases h2 : rn ns sg i k = N
        · rw [if_neg h1, if_pos (by omega), if_pos (by omega)]
        · rw [if_neg h1, if_neg (by omega), if_neg (by omega)]
    · simp only [rn, hb, if_false, not_false_eq_true, true_and]
      rw [if_neg (show ¬ 0 = N + 1 by omega), if_neg (show ¬ N < 0 by omega)]
/-- the sum over the places -/
def ct_ (ns : Nat → Nat) (sg : Nat → Nat → Int32) (N nl : Nat) : Nat → Nat
  | 0 => 0
  | i + 1 => ct_ ns sg N nl i + cc_ ns sg N i nl
theorem ct_le (ns : Nat → Nat) (sg : Nat → Nat → Int32) (N nl : Nat) : ∀ i, ct_ ns sg N nl i ≤ i * nl
  | 0 => Nat.zero_le _
  | i + 1 => by
    have := ct_le ns sg N nl i
    have := cc_le ns sg N i nl
    simp only [ct_, Nat.succ_mul]
    omega
theorem p_riversAt {σ : St} {nl i N : Nat} {fs mn ns : Nat → Nat} {sg : Nat → Nat → Int32} {Q : Int32 → St → Prop} (ht : σ 14 4 = nI 1) (hC : CSet σ nl fs mn ns sg) (hi : i < 60) (hN : N < 2 ^ 31) (hQ : Q (nI (cc_ ns sg N i nl)) σ) : wp_X5_riversAt σ (nI i) (nI N) Q := by
  have hn := hC.1
  have hn2 := hC.2.1
  have key : ∀ d k, k + d = nl → wpl_X5_riversAt_8 (nI i) (nI N) Q (d + 1) σ (nI (cc_ ns sg N i k)) (nI (rn ns sg i k)) (nI k) := by
    intro d
    induction d with
    | zero =>
      intro k hk
      obtain rfl : k = nl := by omega
      unfold wpl_X5_riversAt_8
      rw [hn2]
      exact ⟨fun _ => hQ, fun c => absurd (Int32.le_refl _) c⟩
    | succ d ih =>
      intro k hk
      have c1 : ¬ nI nl ≤ nI k := by simp (disch := omega) only [nI_add, nI_eq, nI_leI, nI_ltI, pk_sub, pk_mul, nI_clamp, nI_eqm1, nI_lt0, vp_in_iffN]; omega
      have := ih (k + 1) (by omega)
      have hr := rn_le ns sg i k
      unfold wpl_X5_riversAt_8
      simp only [hn2, c1, not_false_eq_true, true_implies, false_implies, true_and]
      rw [e_signAt5 ht hC (by omega) (by omega)]
      have e0 : ¬ nI 0 - nI 1 = nI N := by
        intro e
        rw [show nI 0 - nI 1 = -1 by decide] at e
        exact (nI_eqm1 hN).mp e.symm
      by_cases hs : i < ns k
      · simp only [hs, if_true]
        by_cases hb : sg k i = nI 32
        · simp only [rn, cc_, hs, hb, and_self, if_true, not_true_eq_false, false_implies, true_implies, true_and, nI_add] at this ⊢
          rw [pk_sub (show 1 ≤ rn ns sg i k + 1 by omega), Nat.add_sub_cancel, nI_eq (by omega) hN]
          by_cases hN2 : rn ns sg i k = N
          · simp only [hN2, if_true, not_true_eq_false, false_implies, true_implies, true_and] at this ⊢
            exact this
          · simp only [hN2, if_neg (show ¬ rn ns sg i k + 1 = N + 1 by omega), Nat.add_zero, not_false_eq_true, false_implies, true_implies, and_true] at this ⊢
            exact this
        · simp only [rn, cc_, hs, hb, and_false, if_false, not_false_eq_true, false_implies, true_implies, and_true, e0, show ¬ 0 = N + 1 by omega, Nat.add_zero, nI_add] at this ⊢
          exact this
      · simp only [rn, cc_, hs, false_and, if_false, show ¬ (-1 : Int32) = nI 32 by decide, not_false_eq_true, false_implies, true_implies, and_true, e0, show ¬ 0 = N + 1 by omega, Nat.add_zero, nI_add] at this ⊢
        exact this
  exact ⟨nl + 1, key nl 0 (by omega)⟩
theorem p_riversC {σ : St} {nl N : Nat} {fs mn ns : Nat → Nat} {sg : Nat → Nat → Int32} {Q : Int32 → St → Prop} (ht : σ 14 4 = nI 1) (hC : CSet σ nl fs mn ns sg) (hN : N < 2 ^ 31) (hQ : Q (nI (ct_ ns sg N nl 60)) σ) : ∃ k, wpl_X10_rivers_21 (nI N) Q k σ (nI 0) (nI 0) := by
  have key : ∀ d i, i + d = 60 → wpl_X10_rivers_21 (nI N) Q (d + 1) σ (nI (ct_ ns sg N nl i)) (nI i) := by
    intro d
    induction d with
    | zero =>
      intro i hi
      obtain rfl : i = 60 := by omega
      unfold wpl_X10_rivers_21
      exact ⟨fun _ => hQ, fun c => absurd (Int32.le_refl _) c⟩
    | succ d ih =>
      intro i hi
      have c1 : ¬ nI 60 ≤ nI i := by simp (disch := omega) only [nI_add, nI_eq, nI_leI, nI_ltI, pk_sub, pk_mul, nI_clamp, nI_eqm1, nI_lt0, vp_in_iffN]; omega
      have := ih (i + 1) (by omega)
      unfold wpl_X10_rivers_21
      simp only [c1, not_false_eq_true, true_implies, false_implies, true_and]
      refine p_riversAt ht hC (by omega) hN ?_
      simp only [nI_add]
      exact this
  exact ⟨61, key 60 0 (by omega)⟩
theorem p_riversM {τ : St} {nl N : Nat} {fs mn ns : Nat → Nat} {sg : Nat → Nat → Int32} {Q : Int32 → St → Prop} (hM : MSet τ nl fs mn ns sg) (hn : nl ≤ 80) (hns : ∀ k, k < nl → ns k ≤ 60) (hN : N < 2 ^ 31) (hQ : Q (nI (ct_ ns sg N nl 60)) τ) : ∃ k, wpl_X11_rivers_18 (nI N) Q k τ (nI 0) (nI 0) := by
  have inner : ∀ (i v0 : Nat) (K : St → Int32 → Int32 → Prop), i < 60 → v0 ≤ 60 * 80 → K τ (nI (v0 + cc_ ns sg N i nl)) (nI (i + 1)) → ∀ d k, k + d = nl → wpl_X11_rivers_30 (nI N) (nI i) K Q (d + 2) τ (nI (v0 + mc_ ns sg N i k)) (nI (rn ns sg i k)) (nI k) := by
    intro i v0 K hi hv hK d
    induction d with
    | zero =>
      intro k hk
      obtain rfl : k = nl := by omega
      have hr := rn_le ns sg i k
      unfold wpl_X11_rivers_30
      have c1 : ¬ nI k < nI k := Int32.lt_irrefl
      have c2 : nI k ≤ nI k := Int32.le_refl _
      have c3 : nI k < nI (k + 1) := by simp (disch := omega) only [nI_add, nI_eq, nI_leI, nI_ltI, pk_sub, pk_mul, nI_clamp, nI_eqm1, nI_lt0, vp_in_iffN]; omega
      simp only [hM.1, c1, c2, not_false_eq_true, not_true_eq_false, true_implies, false_implies, true_and, and_true]
      unfold wpl_X11_rivers_30
      simp only [hM.1, nI_add, c3, not_true_eq_false, true_implies, false_implies, and_true]
      rw [cc_mc] at hK
      rw [nI_leI (by omega) hN]
      by_cases h1 : N < rn ns sg i k
      · rw [if_pos h1] at hK
        exact ⟨fun c => absurd c (by omega), fun _ => by rw [Nat.add_assoc]; exact hK⟩
      · rw [if_neg h1] at hK
        exact ⟨fun _ => hK, fun c => absurd (show rn ns sg i k ≤ N by omega) c⟩
    | succ d ih =>
      intro k hk
      have hr := rn_le ns sg i k
      have := ih (k + 1) (by omega)
      obtain ⟨m1, m2, m3, m4⟩ := hM.2 k (by omega)
      have h6 := hns k (by omega)
      have c1 : ¬ nI nl < nI k := by simp (disch := omega) only [nI_add, nI_eq, nI_leI, nI_ltI, pk_sub, pk_mul, nI_clamp, nI_eqm1, nI_lt0, vp_in_iffN]; omega
      have c2 : ¬ nI nl ≤ nI k := by simp (disch := omega) only [nI_add, nI_eq, nI_leI, nI_ltI, pk_sub, pk_mul, nI_clamp, nI_eqm1, nI_lt0, vp_in_iffN]; omega
      have c3 : vp_in (nI k) 80 := by simp (disch := omega) only [nI_add, nI_eq, nI_leI, nI_ltI, pk_sub, pk_mul, nI_clamp, nI_eqm1, nI_lt0, vp_in_iffN]; omega
      unfold wpl_X11_rivers_30
      simp only [hM.1, c1, c2, c3, not_false_eq_true, true_implies, false_implies, true_and, nI_clamp (show k < 2 ^ 31 by omega), m3, nI_add, pk_mul]
      rw [nI_leI (show rn ns sg i k < 2 ^ 31 by omega) hN, nI_leI (show ns k < 2 ^ 31 by omega) (show i < 2 ^ 31 by omega)]
      by_cases hs : i < ns k
      · have c4 : vp_in (nI (60 * k + i)) 4800 := by simp (disch := omega) only [nI_add, nI_eq, nI_leI, nI_ltI, pk_sub, pk_mul, nI_clamp, nI_eqm1, nI_lt0, vp_in_iffN]; omega
        simp only [show ¬ ns k ≤ i by omega, c4, not_false_eq_true, true_implies, false_implies, true_and, nI_clamp (show 60 * k + i < 2 ^ 31 by omega), m4 i hs]
        by_cases hb : sg k i = nI 32
        · simp only [rn, mc_, hs, hb, and_self, if_true, not_true_eq_false, false_and, if_false, Nat.add_zero, false_implies, true_implies, true_and] at this ⊢
          exact this
        · simp only [rn, mc_, hs, hb, and_false, if_false, not_false_eq_true, true_and, false_implies, true_implies, and_true] at this ⊢
          by_cases h1 : N < rn ns sg i k
          · rw [if_pos h1] at this
            exact ⟨fun c => absurd c (by omega), fun _ => by rw [Nat.add_assoc]; exact this⟩
          · rw [if_neg h1] at this
            exact ⟨fun _ => this, fun c => absurd (show rn ns sg i k ≤ N by omega) c⟩
      · simp only [show ns k ≤ i by omega, rn, mc_, hs, false_and, if_false, not_false_eq_true, not_true_eq_false, true_and, false_implies, true_implies, and_true] at this ⊢
        by_cases h1 : N < rn ns sg i k
        · rw [if_pos h1] at this
          exact ⟨fun c => absurd c (by omega), fun _ => by rw [Nat.add_assoc]; exact this⟩
        · rw [if_neg h1] at this
          exact ⟨fun _ => this, fun c => absurd (show rn ns sg i k ≤ N by omega) c⟩
  have key : ∀ d i, i + d = 60 → wpl_X11_rivers_18 (nI N) Q (d + 1) τ (nI (ct_ ns sg N nl i)) (nI i) := by
    intro d
    induction d with
    | zero =>
      intro i hi
      obtain rfl : i = 60 := by omega
      unfold wpl_X11_rivers_18
      exact ⟨fun _ => hQ, fun c => absurd (Int32.le_refl _) c⟩
    | succ d ih =>
      intro i hi
      have c1 : ¬ nI 60 ≤ nI i := by simp (disch := omega) only [nI_add, nI_eq, nI_leI, nI_ltI, pk_sub, pk_mul, nI_clamp, nI_eqm1, nI_lt0, vp_in_iffN]; omega
      have h1 := ih (i + 1) (by omega)
      have h2 := ct_le ns sg N nl i
      have h3 : i * nl ≤ 60 * 80 := Nat.mul_le_mul (by omega) hn
      unfold wpl_X11_rivers_18
      simp only [c1, not_false_eq_true, true_implies, false_implies, true_and]
      exact ⟨nl + 2, inner i (ct_ ns sg N nl i) _ (by omega) (by omega) h1 nl 0 (by omega)⟩
  exact ⟨61, key 60 0 (by omega)⟩
theorem CSet.ns60 {σ : St} {nl : Nat} {fs mn ns : Nat → Nat} {sg : Nat → Nat → Int32} (hC : CSet σ nl fs mn ns sg) : ∀ k, k < nl → ns k ≤ 60 := by
  obtain ⟨hn, hn2, su, bg, en, s1, s2, s3, s4⟩ := hC
  exact fun k hk => (s4 k hk).2.2.2.2.2.2.2.1
theorem op_rivers {σ τ : St} (h : Rel σ τ) (x : Int32) : wp_X10_rivers σ x (fun r σ' => wp_X11_rivers τ x (fun r' τ' => r = r' ∧ Rel σ' τ')) := by
  obtain ⟨hT, hF, ⟨u, z, b, L, hO, hC, hM, hK, s1, s2, s3, s4, s5, s6⟩, hR⟩ := id h
  simp only [wp_X10_rivers, wp_X11_rivers, wp_X5_isThere, s4]
  refine ⟨s1, ?_⟩
  rcases s1 with s | s
  · simp [s, h]
  · obtain ⟨nl, fs, mn, ns, sg, q1, q2, -⟩ := s6 s
    simp only [s, nI10, not_false_eq_true, true_implies, false_implies, true_and]
    by_cases c : nI 1 ≤ x
    · obtain ⟨N, hN, rfl⟩ := nI_of (x := x) (fun q => absurd (Int32.lt_of_lt_of_le q (show (0 : Int32) ≤ nI 1 by decide)) (Int32.not_lt.mpr c))
      simp only [c, not_true_eq_false, true_implies, false_implies, and_true]
      refine p_riversC s q1 hN ?_
      exact p_riversM q2 q1.1 q1.ns60 hN ⟨rfl, h⟩
    · simp [c, h]
