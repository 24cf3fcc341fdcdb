/-! THE SETTING, as numbers: where each unit stands in the endless row, the lines' signs, the strains -/
def sn_ (b : Nat → Int32) (k : Nat) : Nat := if b k = nI 44 ∨ b k = nI 46 then 1 else 0
def jt_ (b : Nat → Int32) (k : Nat) : Nat := if b k = nI 45 then 1 else 0
/-- blanks ahead of unit k + 1 -/
def gp_ (b : Nat → Int32) (sp k : Nat) : Nat := if b k = nI 45 then 0 else sp
def bg_ (z : Nat → Nat) (b : Nat → Int32) (sp : Nat) : Nat → Nat
  | 0 => 0
  | k + 1 => bg_ z b sp k + z k + sn_ b k + gp_ b sp k
def en_ (z : Nat → Nat) (b : Nat → Int32) (sp k : Nat) : Nat := bg_ z b sp k + z k + sn_ b k
/-- the endless row, of its first m units -/
def sg_ (z : Nat → Nat) (b : Nat → Int32) (L : Nat → Nat → Int32) (sp : Nat) : Nat → Nat → Int32
  | 0, _ => nI 32
  | k + 1, p => if bg_ z b sp k ≤ p ∧ p < en_ z b sp k then (if p - bg_ z b sp k < z k then L k (p - bg_ z b sp k) else b k) else sg_ z b L sp k p
theorem bg_succ (z : Nat → Nat) (b : Nat → Int32) (sp k : Nat) : bg_ z b sp (k + 1) = en_ z b sp k + gp_ b sp k := rfl
theorem sn_le (b : Nat → Int32) (k : Nat) : sn_ b k ≤ 1 := by unfold sn_; split <;> omega
theorem jt_le (b : Nat → Int32) (k : Nat) : jt_ b k ≤ 1 := by unfold jt_; split <;> omega
theorem gp_le (b : Nat → Int32) (sp k : Nat) : gp_ b sp k ≤ sp := by unfold gp_; split <;> omega
theorem bg_le_en (z : Nat → Nat) (b : Nat → Int32) (sp k : Nat) : bg_ z b sp k ≤ en_ z b sp k := by unfold en_; omega
theorem en_le_bg {z : Nat → Nat} {b : Nat → Int32} {sp j k : Nat} (h : j < k) : en_ z b sp j ≤ bg_ z b sp k := by
  induction k with
  | zero => omega
  | succ k ih =>
    rw [bg_succ]
    by_cases hj : j = k
    · subst hj; omega
    · have := ih (by omega)
      have := bg_le_en z b sp k
      omega
theorem en_mono {z : Nat → Nat} {b : Nat → Int32} {sp j k : Nat} (h : j ≤ k) : en_ z b sp j ≤ en_ z b sp k := by
  by_cases hj : j = k
  · subst hj; omega
  · have := en_le_bg (z := z) (b := b) (sp := sp) (show j < k by omega)
    have := bg_le_en z b sp k
    omega
theorem bg_mono {z : Nat → Nat} {b : Nat → Int32} {sp j k : Nat} (h : j ≤ k) : bg_ z b sp j ≤ bg_ z b sp k := by
  by_cases hj : j = k
  · subst hj; omega
  · have := en_le_bg (z := z) (b := b) (sp := sp) (show j < k by omega)
    have := bg_le_en z b sp j
    omega
theorem bg_bound {z : Nat → Nat} {b : Nat → Int32} {sp u : Nat} (hz : ∀ k, k < u → z k ≤ 20) (hsp : sp ≤ 3) : ∀ k, k ≤ u → bg_ z b sp k ≤ 24 * k
  | 0, _ => by simp [bg_]
  | k + 1, hk => by
    have h1 := bg_bound (b := b) hz hsp k (by omega)
    have h2 := hz k (by omega)
    have h3 := sn_le b k
    have h4 := gp_le b sp k
    simp only [bg_]
    omega
theorem en_bound {z : Nat → Nat} {b : Nat → Int32} {sp u k : Nat} (hz : ∀ k, k < u → z k ≤ 20) (hsp : sp ≤ 3) (hu : u ≤ 80) (hk : k < u) : en_ z b sp k ≤ 1917 := by
  have h1 := bg_bound (b := b) hz hsp k (by omega)
  have h2 := hz k hk
  have h3 := sn_le b k
  unfold en_
  omega
/-- within a unit -/
theorem sg_in {z : Nat → Nat} {b : Nat → Int32} {L : Nat → Nat → Int32} {sp k p : Nat} (h1 : bg_ z b sp k ≤ p) (h2 : p < en_ z b sp k) : ∀ m, k < m → sg_ z b L sp m p = if p - bg_ z b sp k < z k then L k (p - bg_ z b sp k) else b k
  | 0, h => by omega
  | m + 1, h => by
    simp only [sg_]
    by_cases hm : k = m
    · subst hm
      rw [if_pos ⟨h1, h2⟩]
    · rw [if_neg (fun q => by have := en_le_bg (z := z) (b := b) (sp := sp) (show k < m by omega); omega)]
      exact sg_in h1 h2 m (by omega)
theorem sg_letter {z : Nat → Nat} {b : Nat → Int32} {L : Nat → Nat → Int32} {sp k i m : Nat} (hk : k < m) (hi : i < z k) : sg_ z b L sp m (bg_ z b sp k + i) = L k i := by
  rw [sg_in (k := k) (by omega) (by unfold en_; omega) m hk, Nat.add_sub_cancel_left, if_pos hi]
theorem sg_end {z : Nat → Nat} {b : Nat → Int32} {L : Nat → Nat → Int32} {sp k m : Nat} (hk : k < m) (hs : sn_ b k = 1) : sg_ z b L sp m (bg_ z b sp k + z k) = b k := by
  rw [sg_in (k := k) (by omega) (by unfold en_; omega) m hk, Nat.add_sub_cancel_left, if_neg (by omega)]
/-- between two units -/
theorem sg_gap {z : Nat → Nat} {b : Nat → Int32} {L : Nat → Nat → Int32} {sp k p : Nat} (h1 : en_ z b sp k ≤ p) (h2 : p < bg_ z b sp (k + 1)) : ∀ m, sg_ z b L sp m p = nI 32
  | 0 => rfl
  | m + 1 => by
    simp only [sg_]
    rw [if_neg (fun q => ?_)]
    · exact sg_gap h1 h2 m
    · rcases Nat.lt_or_ge m (k + 1) with g | g
      · have := en_mono (z := z) (b := b) (sp := sp) (show m ≤ k by omega)
        omega
      · have := bg_mono (z := z) (b := b) (sp := sp) (show k + 1 ≤ m by omega)
        omega
/-- the signs of a line without its -, and with it -/
def B_ (z : Nat → Nat) (b : Nat → Int32) (sp f n : Nat) : Nat := en_ z b sp (f + n - 1) - bg_ z b sp f
def NS_ (z : Nat → Nat) (b : Nat → Int32) (sp f n : Nat) : Nat := B_ z b sp f n + jt_ b (f + n - 1)
theorem B_step {z : Nat → Nat} {b : Nat → Int32} {sp f n : Nat} (hn : 1 ≤ n) : B_ z b sp f (n + 1) = B_ z b sp f n + gp_ b sp (f + n - 1) + z (f + n) + sn_ b (f + n) := by
  unfold B_
  obtain ⟨m, rfl⟩ : ∃ m, n = m + 1 := ⟨n - 1, by omega⟩
  have h1 := bg_mono (z := z) (b := b) (sp := sp) (show f ≤ f + m by omega)
  have h2 := bg_le_en z b sp (f + m)
  have e : en_ z b sp (f + (m + 1)) = en_ z b sp (f + m) + gp_ b sp (f + m) + z (f + (m + 1)) + sn_ b (f + (m + 1)) := rfl
  rw [show f + (m + 1 + 1) - 1 = f + (m + 1) by omega, show f + (m + 1) - 1 = f + m by omega, e]
  omega
theorem NS_le_B {z : Nat → Nat} {b : Nat → Int32} {sp f n : Nat} (hn : 1 ≤ n) (hz : 1 ≤ z (f + n)) (hsp : 1 ≤ sp) : NS_ z b sp f n ≤ B_ z b sp f (n + 1) := by
  rw [B_step hn]
  unfold NS_ jt_ gp_
  split <;> omega
theorem NS_mono {z : Nat → Nat} {b : Nat → Int32} {sp u f n m : Nat} (hz : ∀ k, k < u → 1 ≤ z k) (hsp : 1 ≤ sp) (hn : 1 ≤ n) (hnm : n ≤ m) (hm : f + m ≤ u) : NS_ z b sp f n ≤ NS_ z b sp f m := by
  induction m with
  | zero => omega
  | succ m ih =>
    by_cases h : n = m + 1
    · subst h; omega
    · have h1 := ih (by omega) (by omega)
      have h2 := NS_le_B (b := b) (sp := sp) (show 1 ≤ m by omega) (hz (f + m) (by omega)) hsp
      unfold NS_ at h1 ⊢
      unfold NS_ at h2
      omega
theorem B_ge {z : Nat → Nat} {b : Nat → Int32} {sp u f : Nat} (hz : ∀ k, k < u → 1 ≤ z k) : ∀ n, 1 ≤ n → f + n ≤ u → n ≤ B_ z b sp f n
  | 0, h, _ => by omega
  | 1, _, hu => by
    have := hz f (by omega)
    unfold B_ en_
    rw [show f + 1 - 1 = f by omega]
    omega
  | n + 2, _, hu => by
    have h1 := B_ge (b := b) (sp := sp) (f := f) hz (n + 1) (by omega) (by omega)
    have h2 := hz (f + (n + 1)) (by omega)
    rw [B_step (by omega)]
    omega
theorem NS_sub {z : Nat → Nat} {b : Nat → Int32} {sp u f n k : Nat} (hz : ∀ k, k < u → 1 ≤ z k) (hsp : 1 ≤ sp) (hk : f ≤ k) (hk2 : k < f + n) (hu : f + n ≤ u) : NS_ z b sp k 1 ≤ NS_ z b sp f n := by
  have h1 : NS_ z b sp k 1 ≤ NS_ z b sp k (f + n - k) := NS_mono hz hsp (by omega) (by omega) (by omega)
  have h2 : NS_ z b sp k (f + n - k) ≤ NS_ z b sp f n := by
    unfold NS_ B_
    have := bg_mono (z := z) (b := b) (sp := sp) hk
    rw [show k + (f + n - k) - 1 = f + n - 1 by omega]
    omega
  omega
/-- the most units that a line from f on may have -/
def mxS (P : Nat → Nat) (lg : Nat) : Nat → Nat
  | 0 => 0
  | n + 1 => if P (n + 1) ≤ lg then n + 1 else mxS P lg n
def mx_ (u : Nat) (z : Nat → Nat) (b : Nat → Int32) (sp lg f : Nat) : Nat := mxS (NS_ z b sp f) lg (u - f)
theorem mxS_le (P : Nat → Nat) (lg : Nat) : ∀ n, mxS P lg n ≤ n
  | 0 => Nat.le_refl 0
  | n + 1 => by
    have := mxS_le P lg n
    simp only [mxS]
    split <;> omega
theorem mxS_fit (P : Nat → Nat) (lg : Nat) : ∀ n, 0 < mxS P lg n → P (mxS P lg n) ≤ lg
  | 0, h => by simp [mxS] at h
  | n + 1, h => by
    simp only [mxS] at h ⊢
    split
    · rename_i q; exact q
    · rename_i q
      rw [if_neg q] at h
      exact mxS_fit P lg n h
theorem mxS_out (P : Nat → Nat) (lg : Nat) : ∀ n j, mxS P lg n < j → j ≤ n → ¬ P j ≤ lg
  | 0, j, h1, h2 => by simp [mxS] at h1; omega
  | n + 1, j, h1, h2 => by
    simp only [mxS] at h1
    split at h1
    · omega
    · rename_i q
      by_cases hj : j = n + 1
      · subst hj; exact q
      · exact mxS_out P lg n j h1 (by omega)
theorem mx_fit {u : Nat} {z : Nat → Nat} {b : Nat → Int32} {sp lg f m : Nat} (hz : ∀ k, k < u → 1 ≤ z k) (hsp : 1 ≤ sp) (hf : f ≤ u) (h1 : 1 ≤ m) (h2 : m ≤ mx_ u z b sp lg f) : NS_ z b sp f m ≤ lg := by
  have h3 := mxS_le (NS_ z b sp f) lg (u - f)
  have h4 := mxS_fit (NS_ z b sp f) lg (u - f) (by unfold mx_ at h2; omega)
  have h5 : NS_ z b sp f m ≤ NS_ z b sp f (mx_ u z b sp lg f) := NS_mono hz hsp h1 h2 (by unfold mx_; omega)
  unfold mx_ at h5
  omega
theorem mx_out {u : Nat} {z : Nat → Nat} {b : Nat → Int32} {sp lg f m : Nat} (h1 : mx_ u z b sp lg f < m) (h2 : f + m ≤ u) : ¬ NS_ z b sp f m ≤ lg := mxS_out _ lg (u - f) m h1 (by omega)
theorem mx_le {u : Nat} {z : Nat → Nat} {b : Nat → Int32} {sp lg f : Nat} (hf : f ≤ u) : f + mx_ u z b sp lg f ≤ u := by
  have := mxS_le (NS_ z b sp f) lg (u - f)
  unfold mx_
  omega
theorem mx_le_lg {u : Nat} {z : Nat → Nat} {b : Nat → Int32} {sp lg f : Nat} (hz : ∀ k, k < u → 1 ≤ z k) (hsp : 1 ≤ sp) (hf : f ≤ u) : mx_ u z b sp lg f ≤ lg := by
  rcases Nat.eq_zero_or_pos (mx_ u z b sp lg f) with h | h
  · omega
  · have h1 := mx_fit hz hsp hf h (Nat.le_refl _)
    have h2 := B_ge (b := b) (sp := sp) (f := f) hz _ h (mx_le hf)
    unfold NS_ at h1
    omega
theorem mx_pos {u : Nat} {z : Nat → Nat} {b : Nat → Int32} {sp lg f : Nat} (hf : f < u) (h : NS_ z b sp f 1 ≤ lg) : 1 ≤ mx_ u z b sp lg f := by
  rcases Nat.eq_zero_or_pos (mx_ u z b sp lg f) with q | q
  · exact absurd h (mx_out (u := u) (by omega) (by omega))
  · exact q
/-- the least of g 1 .. g k, and the last at which it stands -/
def bm_ (g : Nat → Nat) : Nat → Nat × Nat
  | 0 => (0, 0)
  | k + 1 => if (bm_ g k).2 = 0 ∨ g (k + 1) ≤ (bm_ g k).1 then (g (k + 1), k + 1) else bm_ g k
theorem bm_spec (g : Nat → Nat) : ∀ k, 1 ≤ k → 1 ≤ (bm_ g k).2 ∧ (bm_ g k).2 ≤ k ∧ g (bm_ g k).2 = (bm_ g k).1 ∧ (∀ j, 1 ≤ j → j ≤ k → (bm_ g k).1 ≤ g j) ∧ ∀ j, (bm_ g k).2 < j → j ≤ k → (bm_ g k).1 < g j
  | 0, h => by omega
  | k + 1, _ => by
    rcases Nat.eq_zero_or_pos k with e | e
    · subst e
      simp only [bm_, true_or, if_true]
      exact ⟨by omega, by omega, trivial, fun j h1 h2 => by rw [show j = 1 by omega]; exact Nat.le_refl _, fun j h1 h2 => by omega⟩
    · obtain ⟨h1, h2, h3, h4, h5⟩ := bm_spec g k e
      simp only [bm_]
      by_cases hc : (bm_ g k).2 = 0 ∨ g (k + 1) ≤ (bm_ g k).1
      · rw [if_pos hc]
        have hle : g (k + 1) ≤ (bm_ g k).1 := by omega
        refine ⟨by omega, by omega, rfl, fun j j1 j2 => ?_, fun j j1 j2 => by simp at j1; omega⟩
        by_cases hj : j = k + 1
        · subst hj; exact Nat.le_refl _
        · have := h4 j j1 (by omega)
          simp only
          omega
      · rw [if_neg hc]
        refine ⟨h1, by omega, h3, fun j j1 j2 => ?_, fun j j1 j2 => ?_⟩
        · by_cases hj : j = k + 1
          · subst hj; omega
          · exact h4 j j1 (by omega)
        · by_cases hj : j = k + 1
          · subst hj; omega
          · exact h5 j j1 (by omega)
theorem bm_congr {g g' : Nat → Nat} : ∀ {k : Nat}, (∀ j, 1 ≤ j → j ≤ k → g j = g' j) → bm_ g k = bm_ g' k
  | 0, _ => rfl
  | k + 1, h => by
    simp only [bm_]
    rw [bm_congr (fun j h1 h2 => h j h1 (by omega)), h (k + 1) (by omega) (by omega)]
/-- only one answer -/
theorem bm_uniq {g : Nat → Nat} {k v m : Nat} (hk : 1 ≤ k) (h1 : 1 ≤ m) (h2 : m ≤ k) (h3 : g m = v) (h4 : ∀ j, 1 ≤ j → j ≤ k → v ≤ g j) (h5 : ∀ j, m < j → j ≤ k → v < g j) : v = (bm_ g k).1 ∧ m = (bm_ g k).2 := by
  obtain ⟨a1, a2, a3, a4, a5⟩ := bm_spec g k hk
  have e1 : v = (bm_ g k).1 := by
    have := h4 _ a1 a2
    have := a4 m h1 h2
    omega
  refine ⟨e1, ?_⟩
  rcases Nat.lt_trichotomy m (bm_ g k).2 with q | q | q
  · have := h5 _ q a2; omega
  · exact q
  · have := a5 m q h2; omega
