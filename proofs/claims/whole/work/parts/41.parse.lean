/-! reading a tape: what the text is, byte by byte -/
def zup (z : Nat → Nat) (k v : Nat) : Nat → Nat := fun j => if j = k then v else z j
def Lup (L : Nat → Nat → Int32) (k i : Nat) (c : Int32) : Nat → Nat → Int32 := fun k' i' => if k' = k ∧ i' = i then c else L k' i'
abbrev PS : Type := Nat × Nat × (Nat → Nat) × (Nat → Int32) × (Nat → Nat → Int32)
/-- one byte: where the reading stands then, or the kind of its fault -/
def pstep (st u : Nat) (z : Nat → Nat) (b : Nat → Int32) (L : Nat → Nat → Int32) (c : Int32) : PS ⊕ Nat :=
  if ¬ (c < nI 97 ∨ nI 122 < c) then
    (if st = 3 then .inr 1
     else if st = 1 then (if z (u - 1) = 20 then .inr 2 else .inl (1, u, zup z (u - 1) (z (u - 1) + 1), b, Lup L (u - 1) (z (u - 1)) c))
     else if u = 80 then .inr 3 else .inl (1, u + 1, zup z u 1, upd b u (nI 32), Lup L u 0 c))
  else if c = nI 45 then (if st = 1 then .inl (2, u, z, upd b (u - 1) c, L) else .inr 1)
  else if c = nI 44 ∨ c = nI 46 ∨ c = nI 47 then (if st = 1 then .inl (3, u, z, upd b (u - 1) c, L) else .inr 1)
  else if (c = nI 10 ∨ c = nI 32) ∧ st ≠ 2 then .inl (0, u, z, b, L) else .inr 1
def prs (t : Nat → Int32) : Nat → PS ⊕ (Nat × Nat)
  | 0 => .inl (0, 0, fun _ => 0, fun _ => nI 32, fun _ _ => nI 0)
  | i + 1 => match prs t i with
    | .inr f => .inr f
    | .inl (st, u, z, b, L) => match pstep st u z b L (t i) with
      | .inl s => .inl s
      | .inr k => .inr (k, i)
def fin_ (t : Nat → Int32) (n : Nat) : PS ⊕ (Nat × Nat) := match prs t n with
  | .inr f => .inr f
  | .inl (st, u, z, b, L) => if st = 2 then .inr (1, n) else .inl (st, u, z, b, L)
theorem prs_congr {t t' : Nat → Int32} : ∀ {n : Nat}, (∀ i, i < n → t i = t' i) → prs t n = prs t' n
  | 0, _ => rfl
  | n + 1, h => by
    simp only [prs]
    rw [prs_congr (fun i hi => h i (by omega)), h n (by omega)]
theorem fin_congr {t t' : Nat → Int32} {n : Nat} (h : ∀ i, i < n → t i = t' i) : fin_ t n = fin_ t' n := by
  unfold fin_
  rw [prs_congr h]
/-- what holds all along -/
def PInv (st u : Nat) (z : Nat → Nat) (b : Nat → Int32) (L : Nat → Nat → Int32) : Prop := st ≤ 3 ∧ (st = 1 → 0 < u) ∧ OkT u z b L
theorem isLet {c : Int32} (h : ¬ (c < nI 97 ∨ nI 122 < c)) : ∃ a, 97 ≤ a ∧ a ≤ 122 ∧ c = nI a := by
  have h2 := not_or.mp h
  exact inN (by decide) (by decide) h2.1 h2.2
theorem pstep_inv {st u : Nat} {z : Nat → Nat} {b : Nat → Int32} {L : Nat → Nat → Int32} {c : Int32} {st' u' : Nat} {z' : Nat → Nat} {b' : Nat → Int32} {L' : Nat → Nat → Int32} (hI : PInv st u z b L) (h : pstep st u z b L c = .inl (st', u', z', b', L')) : PInv st' u' z' b' L' := by
  obtain ⟨h1, h2, h3, h4⟩ := hI
  unfold pstep at h
  split at h
  · rename_i hc
    obtain ⟨a, a1, a2, rfl⟩ := isLet hc
    split at h
    · cases h
    · split at h
      · rename_i hst1
        split at h
        · cases h
        · rename_i hz
          cases h
          have hu := h2 hst1
          refine ⟨by omega, fun _ => hu, h3, fun k hk => ?_⟩
          obtain ⟨q1, q2, q3, q4⟩ := h4 k hk
          by_cases hk2 : k = u - 1
          · subst hk2
            refine ⟨by simp [zup], by simp only [zup, if_true]; omega, q3, fun i hi => ?_⟩
            simp only [zup, if_true] at hi
            by_cases hi2 : i = z (u - 1)
            · subst hi2
              exact ⟨a, a1, a2, by simp [Lup]⟩
            · obtain ⟨w, w1, w2, w3⟩ := q4 i (by omega)
              exact ⟨w, w1, w2, by simp [Lup, hi2, w3]⟩
          · refine ⟨by simp [zup, hk2, q1], by simp [zup, hk2, q2], q3, fun i hi => ?_⟩
            simp only [zup, hk2, if_false] at hi
            obtain ⟨w, w1, w2, w3⟩ := q4 i hi
            exact ⟨w, w1, w2, by simp [Lup, hk2, w3]⟩
      · split at h
        · cases h
        · rename_i hu
          cases h
          refine ⟨by omega, fun _ => by omega, by omega, fun k hk => ?_⟩
          by_cases hk2 : k = u
          · subst hk2
            refine ⟨by simp [zup], by simp [zup], Or.inl (by simp [upd]), fun i hi => ?_⟩
            simp only [zup, if_true] at hi
            obtain rfl : i = 0 := by omega
            exact ⟨a, a1, a2, by simp [Lup]⟩
          · obtain ⟨q1, q2, q3, q4⟩ := h4 k (by omega)
            refine ⟨by simp [zup, hk2, q1], by simp [zup, hk2, q2], by rw [upd_ne hk2]; exact q3, fun i hi => ?_⟩
            simp only [zup, hk2, if_false] at hi
            obtain ⟨w, w1, w2, w3⟩ := q4 i hi
            exact ⟨w, w1, w2, by simp [Lup, hk2, w3]⟩
  · have beh : ∀ s', (s' ≤ 3) → (s' ≠ 1) → (c = nI 44 ∨ c = nI 45 ∨ c = nI 46 ∨ c = nI 47) → PInv s' u z (upd b (u - 1) c) L := by
      intro s' hs1 hs2 hc
      refine ⟨hs1, fun e => absurd e hs2, h3, fun k hk => ?_⟩
      obtain ⟨q1, q2, q3, q4⟩ := h4 k hk
      refine ⟨q1, q2, ?_, q4⟩
      by_cases hk2 : k = u - 1
      · subst hk2; rw [upd_same]
        exact Or.inr hc
      · rw [upd_ne hk2]; exact q3
    split at h
    · rename_i hc
      split at h
      · cases h
        exact beh 2 (by omega) (by omega) (Or.inr (Or.inl hc))
      · cases h
    · split at h
      · rename_i hc
        split at h
        · cases h
          exact beh 3 (by omega) (by omega) (by rcases hc with q | q | q <;> simp [q])
        · cases h
      · split at h
        · cases h
          exact ⟨by omega, fun e => by omega, h3, h4⟩
        · cases h
theorem prs_inv {t : Nat → Int32} : ∀ {n st u : Nat} {z : Nat → Nat} {b : Nat → Int32} {L : Nat → Nat → Int32}, prs t n = .inl (st, u, z, b, L) → PInv st u z b L
  | 0, st, u, z, b, L, h => by
    simp only [prs] at h
    cases h
    exact ⟨by omega, fun e => by omega, by omega, fun k hk => by omega⟩
  | n + 1, st, u, z, b, L, h => by
    simp only [prs] at h
    split at h
    · cases h
    · rename_i st0 u0 z0 b0 L0 he
      split at h
      · rename_i s hs
        cases h
        exact pstep_inv (prs_inv he) hs
      · cases h
theorem pstep_kind {st u : Nat} {z : Nat → Nat} {b : Nat → Int32} {L : Nat → Nat → Int32} {c : Int32} {k : Nat} (h : pstep st u z b L c = .inr k) : k = 1 ∨ k = 2 ∨ k = 3 := by
  unfold pstep at h
  repeat' split at h
  all_goals first | (cases h; done) | (cases h; simp)
/-! the class's reading -/
def CR (σ : St) (u : Nat) (z : Nat → Nat) (b : Nat → Int32) (L : Nat → Nat → Int32) : Prop :=
  σ 4 3 = nI u ∧ ∀ k, k < u → σ 6 k = nI (z k) ∧ σ 7 k = b k ∧ ∀ i, i < z k → σ 5 (20 * k + i) = L k i
theorem p_close {σ : St} {u : Nat} {z : Nat → Nat} {b : Nat → Int32} {L : Nat → Nat → Int32} {c : Int32} {Q : St → Prop} (hu : 0 < u) (hu2 : u ≤ 80) (hC : CR σ u z b L) (hQ : CR (up2 σ 7 (u - 1) c) u z (upd b (u - 1) c) L → Q (up2 σ 7 (u - 1) c)) : wp_X9_close σ c Q := by
  have c1 : ¬ nI u ≤ nI 0 := by simp (disch := omega) only [nI_add, nI_eq, nI_leI, nI_ltI, pk_sub, pk_mul, nI_clamp, nI_eqm1, nI_lt0, vp_in_iffN]; omega
  have c2 : vp_in (nI (u - 1)) 80 := by simp (disch := omega) only [nI_add, nI_eq, nI_leI, nI_ltI, pk_sub, pk_mul, nI_clamp, nI_eqm1, nI_lt0, vp_in_iffN]; omega
  simp only [wp_X9_close, hC.1, c1, pk_sub hu, c2, not_false_eq_true, true_implies, false_implies, true_and, nI_clamp (show u - 1 < 2 ^ 31 by omega)]
  refine hQ ⟨hC.1, fun k hk => ?_⟩
  obtain ⟨q1, q2, q3⟩ := hC.2 k hk
  refine ⟨q1, ?_, q3⟩
  show upd (σ 7) (u - 1) c k = upd b (u - 1) c k
  by_cases h : k = u - 1
  · subst h; rw [upd_same, upd_same]
  · rw [upd_ne h, upd_ne h, q2]
theorem p_addLetter {σ : St} {u : Nat} {z : Nat → Nat} {b : Nat → Int32} {L : Nat → Nat → Int32} {c : Int32} {Q : Int32 → St → Prop} (hu : 0 < u) (hu2 : u ≤ 80) (hz : ∀ k, k < u → z k ≤ 20) (hC : CR σ u z b L)
    (h20 : z (u - 1) = 20 → Q (nI 0) σ) (hQ : ∀ σ' : St, z (u - 1) < 20 → CR σ' u (zup z (u - 1) (z (u - 1) + 1)) b (Lup L (u - 1) (z (u - 1)) c) → (∀ d, d ≠ 5 → d ≠ 6 → σ' d = σ d) → Q (nI 1) σ') : wp_X9_addLetter σ c Q := by
  obtain ⟨q1, q2, q3⟩ := hC.2 (u - 1) (by omega)
  have hz1 := hz (u - 1) (by omega)
  have c1 : ¬ nI (u - 1) < nI 0 := by simp (disch := omega) only [nI_add, nI_eq, nI_leI, nI_ltI, pk_sub, pk_mul, nI_clamp, nI_eqm1, nI_lt0, vp_in_iffN]; omega
  have c2 : vp_in (nI (u - 1)) 80 := by simp (disch := omega) only [nI_add, nI_eq, nI_leI, nI_ltI, pk_sub, pk_mul, nI_clamp, nI_eqm1, nI_lt0, vp_in_iffN]; omega
  have c3 : nI (z (u - 1)) < nI 20 ↔ z (u - 1) < 20 := nI_ltI (by omega) (by decide)
  have c4 : vp_in (nI ((u - 1) * 20 + z (u - 1))) 1600 ∨ ¬ z (u - 1) < 20 := by
    by_cases h : z (u - 1) < 20
    · exact Or.inl (by simp (disch := omega) only [nI_add, nI_eq, nI_leI, nI_ltI, pk_sub, pk_mul, nI_clamp, nI_eqm1, nI_lt0, vp_in_iffN]; omega)
    · exact Or.inr h
  simp only [wp_X9_addLetter, hC.1, pk_sub hu, c1, c2, nI_clamp (show u - 1 < 2 ^ 31 by omega), q1, c3, pk_mul, nI_add, not_false_eq_true, true_implies, false_implies, true_and]
  refine ⟨fun hl => ?_, fun hl => h20 (by omega)⟩
  refine ⟨c4.elim id (fun q => absurd hl q), ?_⟩
  rw [nI_clamp (show (u - 1) * 20 + z (u - 1) < 2 ^ 31 by omega)]
  refine hQ _ hl ⟨hC.1, fun k hk => ?_⟩ (fun d h1 h2 => ?_)
  · obtain ⟨r1, r2, r3⟩ := hC.2 k hk
    have hzk := hz k hk
    refine ⟨?_, r2, fun i hi => ?_⟩
    · show upd (σ 6) (u - 1) (nI (z (u - 1) + 1)) k = _
      by_cases h : k = u - 1
      · subst h; rw [upd_same]; simp [zup]
      · rw [upd_ne h, r1]; simp [zup, h]
    · show upd (σ 5) ((u - 1) * 20 + z (u - 1)) c (20 * k + i) = _
      by_cases h : k = u - 1
      · subst h
        simp only [zup, if_true] at hi
        by_cases hi2 : i = z (u - 1)
        · subst hi2
          rw [Nat.mul_comm, upd_same]; simp [Lup]
        · rw [upd_ne (by omega), r3 i (by omega)]; simp [Lup, hi2]
      · simp only [zup, h, if_false] at hi
        rw [upd_ne (by omega), r3 i hi]; simp [Lup, h]
  · rw [up2_ne h2, up2_ne h1]
theorem p_open {σ : St} {u : Nat} {z : Nat → Nat} {b : Nat → Int32} {L : Nat → Nat → Int32} {Q : Int32 → St → Prop} (hu2 : u ≤ 80) (hC : CR σ u z b L)
    (h80 : u = 80 → Q (nI 0) σ) (hQ : ∀ σ' : St, u < 80 → CR σ' (u + 1) (zup z u 0) (upd b u (nI 32)) L → (∀ d, d ≠ 4 → d ≠ 6 → d ≠ 7 → σ' d = σ d) → Q (nI 1) σ') : wp_X9_open σ Q := by
  have c1 : nI u < nI 80 ↔ u < 80 := nI_ltI (by omega) (by decide)
  simp only [wp_X9_open, hC.1, c1, nI_add]
  refine ⟨fun hl => ?_, fun hl => h80 (by omega)⟩
  have c2 : vp_in (nI u) 80 := by simp (disch := omega) only [nI_add, nI_eq, nI_leI, nI_ltI, pk_sub, pk_mul, nI_clamp, nI_eqm1, nI_lt0, vp_in_iffN]; omega
  refine ⟨c2, c2, ?_⟩
  rw [nI_clamp (show u < 2 ^ 31 by omega)]
  refine hQ _ hl ⟨rfl, fun k hk => ?_⟩ (fun d h1 h2 h3 => ?_)
  · show upd (σ 6) u (nI 0) k = _ ∧ upd (σ 7) u (nI 32) k = _ ∧ _
    by_cases h : k = u
    · subst h
      refine ⟨by rw [upd_same]; simp [zup], by rw [upd_same, upd_same], fun i hi => ?_⟩
      simp [zup] at hi
    · obtain ⟨r1, r2, r3⟩ := hC.2 k (by omega)
      refine ⟨by rw [upd_ne h, r1]; simp [zup, h], by rw [upd_ne h, upd_ne h, r2], fun i hi => ?_⟩
      simp only [zup, h, if_false] at hi
      exact r3 i hi
  · rw [up2_ne h1, up2_ne h3, up2_ne h2]
