/-! feed (the rows b_.. and s_.. at the head begin as rows of the kit, laws/BITS.to-paste) -/
def bt (x : Int32) (i : Nat) : Bool := x.toBitVec.getLsbD i
theorem b_ext {x y : Int32} (h : ∀ i, i < 32 → bt x i = bt y i) : x = y := Int32.toBitVec_inj.mp (BitVec.eq_of_getLsbD_eq (fun i hi => h i hi))
theorem b_and (x y : Int32) (i : Nat) : bt (x &&& y) i = (bt x i && bt y i) := by unfold bt; rw [Int32.toBitVec_and, BitVec.getLsbD_and]
theorem b_big {x : Int32} {i : Nat} (h : 32 ≤ i) : bt x i = false := BitVec.getLsbD_of_ge _ _ h
theorem b_255 (i : Nat) : bt 255 i = decide (i < 8) := by
  rcases Nat.lt_or_ge i 32 with h | h
  · exact (by decide +kernel : ∀ i, i < 32 → bt 255 i = decide (i < 8)) i h
  · rw [b_big h, decide_eq_false (by omega)]
theorem s_l : ∀ n, n < 32 → ((nI n &&& 31).toBitVec.smod 32).toNat = n := by decide +kernel
theorem s_u : ∀ n, n < 32 → (((nI n).toUInt32 &&& Int32.toUInt32 31).toBitVec % 32).toNat = n := by decide +kernel
theorem b_ushr (n : Nat) (hn : n < 32) (x : Int32) (i : Nat) : bt ((x.toUInt32 >>> ((nI n).toUInt32 &&& Int32.toUInt32 31)).toInt32) i = bt x (n + i) := by
  show (x.toUInt32 >>> ((nI n).toUInt32 &&& Int32.toUInt32 31)).toBitVec.getLsbD i = x.toUInt32.toBitVec.getLsbD (n + i)
  rw [UInt32.toBitVec_shiftRight]
  show (x.toUInt32.toBitVec >>> (((nI n).toUInt32 &&& Int32.toUInt32 31).toBitVec % 32).toNat).getLsbD i = _
  rw [s_u n hn, BitVec.getLsbD_ushiftRight]
theorem b_sshr (n : Nat) (hn : n < 32) (x : Int32) {i : Nat} (hi : i < 32) : bt (x >>> (nI n &&& 31)) i = if n + i < 32 then bt x (n + i) else bt x 31 := by
  unfold bt
  rw [Int32.toBitVec_shiftRight]
  show (x.toBitVec.sshiftRight ((nI n &&& 31).toBitVec.smod 32).toNat).getLsbD i = _
  rw [s_l n hn, BitVec.getLsbD_sshiftRight, BitVec.msb_eq_getLsbD_last]
  simp [hi]
def byt (x : Int32) (s : Nat) : Int32 := (x >>> (nI s &&& 31)) &&& nI 255
theorem byt_u {x : Int32} {s : Nat} (h : s ≤ 24) : ((x.toUInt32 >>> ((nI s).toUInt32 &&& Int32.toUInt32 31)).toInt32) &&& nI 255 = byt x s := by
  refine b_ext (fun i hi => ?_)
  unfold byt
  rw [b_and, b_and, b_ushr s (by omega), b_sshr s (by omega) x hi]
  have h2 : bt (nI 255) i = decide (i < 8) := b_255 i
  rw [h2]
  by_cases h8 : i < 8
  · rw [if_pos (by omega)]
  · simp [h8]
def shf (j : Nat) : Int32 := if j = 4 then nI 0 - nI 8 else nI (24 - 8 * j)
theorem shf_step : ∀ j, j < 4 → shf j - nI 8 = shf (j + 1) := by decide +kernel
theorem shf_pos : ∀ j, j < 4 → ¬ shf j < nI 0 := by decide +kernel
theorem p_appendNumber {σ : St} {n : Nat} {x : Int32} {Q : St → Prop} (hn : n + 4 ≤ 600) (h1 : σ 1 1 = nI n)
    (hQ : ∀ σ' : St, σ' 1 1 = nI (n + 4) → (∀ c, c ≠ 1 → c ≠ 2 → σ' c = σ c) → (∀ i, i < n → σ' 2 i = σ 2 i) → (∀ q, q < 4 → σ' 2 (n + q) = byt x (24 - 8 * q)) → Q σ') : wp_X7_appendNumber σ x Q := by
  have key : ∀ d j (σ' : St), j + d = 4 → σ' 1 1 = nI (n + j) → (∀ c, c ≠ 1 → c ≠ 2 → σ' c = σ c) → (∀ i, i < n → σ' 2 i = σ 2 i) → (∀ q, q < j → σ' 2 (n + q) = byt x (24 - 8 * q)) → wpl_X7_appendNumber_3 x Q (d + 1) σ' (shf j) := by
    intro d
    induction d with
    | zero =>
      intro j σ' hj a1 a2 a3 a4
      obtain rfl : j = 4 := by omega
      unfold wpl_X7_appendNumber_3
      exact ⟨fun _ => hQ σ' a1 a2 a3 a4, fun c => absurd (show shf 4 < nI 0 by decide +kernel) c⟩
    | succ d ih =>
      intro j σ' hj a1 a2 a3 a4
      unfold wpl_X7_appendNumber_3
      have c1 : ¬ nI 600 ≤ nI (n + j) := by simp (disch := omega) only [nI_add, nI_eq, nI_leI, nI_ltI, pk_sub, pk_mul, nI_clamp, nI_eqm1, nI_lt0, vp_in_iffN]; omega
      have c2 : vp_in (nI (n + j)) 600 := by simp (disch := omega) only [nI_add, nI_eq, nI_leI, nI_ltI, pk_sub, pk_mul, nI_clamp, nI_eqm1, nI_lt0, vp_in_iffN]; omega
      have hs : shf j = nI (24 - 8 * j) := by simp [shf, show ¬ j = 4 by omega]
      simp only [shf_pos j (by omega), shf_step j (by omega), a1, c1, c2, not_false_eq_true, true_implies, false_implies, true_and, nI_clamp (show n + j < 2 ^ 31 by omega), nI_add]
      rw [hs, byt_u (by omega)]
      refine ih (j + 1) _ (by omega) rfl (fun c h1 h2 => ?_) (fun i hi => ?_) (fun q hq => ?_)
      · rw [up2_ne h1, up2_ne h2, a2 c h1 h2]
      · show upd (σ' 2) (n + j) _ i = _
        rw [upd_ne (by omega), a3 i hi]
      · show upd (σ' 2) (n + j) _ (n + q) = _
        by_cases hqj : q = j
        · subst hqj; rw [upd_same]
        · rw [upd_ne (by omega), a4 q (by omega)]
  exact ⟨5, key 4 0 σ (by omega) h1 (fun _ _ _ => rfl) (fun _ _ => rfl) (fun q hq => by omega)⟩
def wrd (a b c d e : Int32) (q : Nat) : Int32 := if q < 4 then a else if q < 8 then b else if q < 12 then c else if q < 16 then d else e
theorem p_append {σ : St} {n : Nat} {a b c d e : Int32} {Q : Int32 → St → Prop} (hn : n + 20 ≤ 600) (h1 : σ 1 1 = nI n)
    (hQ : ∀ σ' : St, σ' 1 1 = nI (n + 20) → (∀ c, c ≠ 1 → c ≠ 2 → σ' c = σ c) → (∀ i, i < n → σ' 2 i = σ 2 i) → (∀ q, q < 20 → σ' 2 (n + q) = byt (wrd a b c d e q) (24 - 8 * (q % 4))) → Q (nI (n + 20)) σ') : wp_X7_append σ a b c d e Q := by
  unfold wp_X7_append
  have c1 : nI n + nI 20 ≤ nI 600 := by simp (disch := omega) only [nI_add, nI_eq, nI_leI, nI_ltI, pk_sub, pk_mul, nI_clamp, nI_eqm1, nI_lt0, vp_in_iffN]; omega
  simp only [h1, c1, not_true_eq_false, true_implies, false_implies, and_true]
  refine p_appendNumber (by omega) h1 (fun σ1 a1 a2 a3 a4 => ?_)
  refine p_appendNumber (n := n + 4) (by omega) a1 (fun σ2 b1 b2 b3 b4 => ?_)
  refine p_appendNumber (n := n + 8) (by omega) b1 (fun σ3 c1 c2 c3 c4 => ?_)
  refine p_appendNumber (n := n + 12) (by omega) c1 (fun σ4 d1 d2 d3 d4 => ?_)
  refine p_appendNumber (n := n + 16) (by omega) d1 (fun σ5 e1 e2 e3 e4 => ?_)
  rw [e1]
  refine hQ σ5 e1 (fun c h1 h2 => ?_) (fun i hi => ?_) (fun q hq => ?_)
  · rw [e2 c h1 h2, d2 c h1 h2, c2 c h1 h2, b2 c h1 h2, a2 c h1 h2]
  · rw [e3 i (by omega), d3 i (by omega), c3 i (by omega), b3 i (by omega), a3 i hi]
  · unfold wrd
    by_cases q1 : q < 4
    · rw [e3 _ (by omega), d3 _ (by omega), c3 _ (by omega), b3 _ (by omega), a4 q q1, if_pos q1, Nat.mod_eq_of_lt q1]
    · by_cases q2 : q < 8
      · rw [if_neg q1, if_pos q2, e3 _ (by omega), d3 _ (by omega), c3 _ (by omega), show n + q = n + 4 + (q - 4) by omega, b4 (q - 4) (by omega), show (q - 4) = q % 4 by omega]
      · by_cases q3 : q < 12
        · rw [if_neg q1, if_neg q2, if_pos q3, e3 _ (by omega), d3 _ (by omega), show n + q = n + 8 + (q - 8) by omega, c4 (q - 8) (by omega), show (q - 8) = q % 4 by omega]
        · by_cases q4 : q < 16
          · rw [if_neg q1, if_neg q2, if_neg q3, if_pos q4, e3 _ (by omega), show n + q = n + 12 + (q - 12) by omega, d4 (q - 12) (by omega), show (q - 12) = q % 4 by omega]
          · rw [if_neg q1, if_neg q2, if_neg q3, if_neg q4, show n + q = n + 16 + (q - 16) by omega, e4 (q - 16) (by omega), show (q - 16) = q % 4 by omega]
theorem p_feedM {τ : St} {n : Nat} {a b c d e : Int32} {Q : Int32 → St → Prop} (hn : n + 20 ≤ 600) (h1 : τ 0 6 = nI n)
    (hQ : ∀ g : Nat → Int32, (∀ i, i < n → g i = τ 5 i) → (∀ q, q < 20 → g (n + q) = byt (wrd a b c d e q) (24 - 8 * (q % 4))) → Q (nI (n + 20)) (upA (up2 τ 0 6 (nI (n + 20))) 5 g)) : wp_X11_feed τ a b c d e Q := by
  have key : ∀ m k (τ' : St), k + m = 20 → τ' 0 6 = nI (n + k) → (∀ c, c ≠ 0 → c ≠ 5 → τ' c = τ c) → (∀ i, i ≠ 6 → τ' 0 i = τ 0 i) → (∀ i, i < n → τ' 5 i = τ 5 i) → (∀ q, q < k → τ' 5 (n + q) = byt (wrd a b c d e q) (24 - 8 * (q % 4))) → wpl_X11_feed_18 a b c d e Q (m + 1) τ' (nI k) := by
    intro m
    induction m with
    | zero =>
      intro k τ' hk a1 a2 a3 a4 a5
      obtain rfl : k = 20 := by omega
      unfold wpl_X11_feed_18
      refine ⟨fun _ => ?_, fun c => absurd (Int32.le_refl _) c⟩
      have e : τ' = upA (up2 τ 0 6 (nI (n + 20))) 5 (τ' 5) := by
        have e1 := fr2 0 5 a2
        have e2 := frU (f := τ 0) (g := τ' 0) 6 a3
        rw [a1] at e2
        rw [up2_eq, ← e2]
        exact e1
      rw [a1]
      have := hQ (τ' 5) a4 a5
      rw [← e] at this
      exact this
    | succ m ih =>
      intro k τ' hk a1 a2 a3 a4 a5
      have hw : ∀ s0, s0 = wrd a b c d e k → wpj_X11_feed_71 a b c d e (nI k) s0 (wpl_X11_feed_18 a b c d e Q (m + 1)) Q τ' := by
        intro s0 hs
        unfold wpj_X11_feed_71
        have c2 : vp_in (nI (n + k)) 600 := by simp (disch := omega) only [nI_add, nI_eq, nI_leI, nI_ltI, pk_sub, pk_mul, nI_clamp, nI_eqm1, nI_lt0, vp_in_iffN]; omega
        have e1 : nI 8 * (nI 3 - (nI k - nI k / nI 4 * nI 4)) = nI (24 - 8 * (k % 4)) := by
          rw [pk_rem (by omega) (by decide) (by decide), pk_sub (by omega), pk_mul]
          congr 1
          omega
        simp only [a1, c2, e1, true_and, nI_clamp (show n + k < 2 ^ 31 by omega), nI_add]
        refine ih (k + 1) _ (by omega) rfl (fun c h1 h2 => ?_) (fun i hi => ?_) (fun i hi => ?_) (fun q hq => ?_)
        · rw [up2_ne h1, up2_ne h2, a2 c h1 h2]
        · show upd (τ' 0) 6 _ i = _
          rw [upd_ne hi, a3 i hi]
        · show upd (τ' 5) (n + k) _ i = _
          rw [upd_ne (by omega), a4 i hi]
        · show upd (τ' 5) (n + k) _ (n + q) = _
          by_cases hqk : q = k
          · subst hqk; rw [upd_same, hs]; rfl
          · rw [upd_ne (by omega), a5 q (by omega)]
      unfold wpl_X11_feed_18
      have c0 : ¬ nI 20 ≤ nI k := by simp (disch := omega) only [nI_add, nI_eq, nI_leI, nI_ltI, pk_sub, pk_mul, nI_clamp, nI_eqm1, nI_lt0, vp_in_iffN]; omega
      have g4 : nI 4 ≤ nI k ↔ 4 ≤ k := nI_leI (by decide) (by omega)
      have g8 : nI 8 ≤ nI k ↔ 8 ≤ k := nI_leI (by decide) (by omega)
      have g12 : nI 12 ≤ nI k ↔ 12 ≤ k := nI_leI (by decide) (by omega)
      have g16 : nI 16 ≤ nI k ↔ 16 ≤ k := nI_leI (by decide) (by omega)
      simp only [c0, g4, g8, g12, g16, not_false_eq_true, true_implies, false_implies, true_and]
      refine ⟨fun q1 => ⟨fun q2 => ⟨fun q3 => ⟨fun q4 => hw _ ?_, fun q4 => hw _ ?_⟩, fun q3 => hw _ ?_⟩, fun q2 => hw _ ?_⟩, fun q1 => hw _ ?_⟩ <;> unfold wrd
      · rw [if_neg (by omega), if_neg (by omega), if_neg (by omega), if_neg (by omega)]
      · rw [if_neg (by omega), if_neg (by omega), if_neg (by omega), if_pos (by omega)]
      · rw [if_neg (by omega), if_neg (by omega), if_pos (by omega)]
      · rw [if_neg (by omega), if_pos (by omega)]
      · rw [if_pos (by omega)]
  unfold wp_X11_feed
  have c1 : nI n + nI 20 ≤ nI 600 := by simp (disch := omega) only [nI_add, nI_eq, nI_leI, nI_ltI, pk_sub, pk_mul, nI_clamp, nI_eqm1, nI_lt0, vp_in_iffN]; omega
  simp only [h1, c1, not_true_eq_false, true_implies, false_implies, and_true]
  exact ⟨21, key 20 0 τ (by omega) h1 (fun _ _ _ => rfl) (fun _ _ => rfl) (fun _ _ => rfl) (fun q hq => by omega)⟩
theorem op_feed {σ τ : St} (h : Rel σ τ) (a b c d e : Int32) : wp_X10_feed σ a b c d e (fun r σ' => wp_X11_feed τ a b c d e (fun r' τ' => r = r' ∧ Rel σ' τ')) := by
  obtain ⟨⟨n, hn, h1, h2, h3⟩, hF, hX, hMe, hP, hR⟩ := id h
  unfold wp_X10_feed
  by_cases hn2 : n + 20 ≤ 600
  · refine p_append hn2 h1 (fun σ' a1 a2 a3 a4 => ?_)
    refine p_feedM hn2 h2 (fun g b1 b2 => ⟨rfl, ?_⟩)
    have e := fr2 1 2 a2
    generalize σ' 1 = f1 at e
    generalize hf2 : σ' 2 = f2 at e a3 a4
    subst e
    refine ⟨⟨n + 20, hn2, a1, rfl, fun i hi => ?_⟩, hF, hX, hMe, hP, hR⟩
    show f2 i = g i
    by_cases hi2 : i < n
    · rw [a3 i hi2, b1 i hi2, h3 i hi2]
    · obtain ⟨q, rfl⟩ : ∃ q, i = n + q := ⟨i - n, by omega⟩
      rw [a4 q (by omega), b2 q (by omega)]
  · have c1 : ¬ nI n + nI 20 ≤ nI 600 := by simp (disch := omega) only [nI_add, nI_eq, nI_leI, nI_ltI, pk_sub, pk_mul, nI_clamp, nI_eqm1, nI_lt0, vp_in_iffN]; omega
    simp [wp_X7_append, wp_X11_feed, h1, h2, c1, h]
