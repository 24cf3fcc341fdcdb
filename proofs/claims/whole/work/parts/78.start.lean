/-! the law's loop and start (written by wip/gen/law.py) -/
theorem sub6 {L i : Nat} (hL : L ≤ 3072) (hi : i ≤ 4000) : (Int32.ofNat L - nI 6 < nI i) ↔ L < i + 6 := by
  show (nI L - nI 6 < nI i) ↔ _
  by_cases h : 6 ≤ L
  · rw [pk_sub h, nI_ltI (by omega) (by omega)]
    omega
  · refine ⟨fun _ => by omega, fun _ => ?_⟩
    have h0 : nI L - nI 6 < 0 := by
      rcases (show L = 0 ∨ L = 1 ∨ L = 2 ∨ L = 3 ∨ L = 4 ∨ L = 5 by omega) with rfl | rfl | rfl | rfl | rfl | rfl <;> decide
    exact Int32.lt_of_lt_of_le h0 (nI_pos' (by omega))
set_option maxHeartbeats 4000000 in
set_option maxRecDepth 100000 in
theorem law_loop {p : Program} {l : Launch} {e : Env} {s : State} {m : MethodId} {below : List Frame} {meth : Method} {c : Code} {D : va_G} {cyI cyZ : ClassId} {tL tS : Nat} {adC adM : Nat → Nat} {b L : Nat} {xs : Nat → Int32} (C0 : Cx p s m #[Value.ref b] meth c code 4 ret RL lw_tbl) (hX : va_X b L xs s s.heap) (hbl : b < s.heap.size) (hL : L ≤ 3072) :
    ∀ (n i : Nat), L + 1 ≤ i + n → i ≤ L + 6 → ∀ (σ τ : St) (H : Heap) (locs : List Loc) (ls : Array Slot), LI D cyI cyZ tL tS adC adM s H locs σ τ → Rel σ τ → lv_has ls 4 [(0, .ref b), (1, .ref (adC 0)), (2, .ref (adM 0)), (3, .int (nI i))] → W p l e room_1 s m #[Value.ref b] below meth c H locs 51 29470 (lw_Z below #[Value.ref b] s) (F0 m 18 ls []) := by
  obtain ⟨hx, hb, hr, hml, hown, hts, hlocks⟩ := id C0
  have hbA : ¬ (fun q : Nat => s.heap.size ≤ q) b := Nat.not_le.mpr hbl
  intro n
  induction n with
  | zero =>
    intro i h1 h2 σ τ H locs ls hI hR hl
    refine lv_iload_n hx hb dL_law_18 rfl (lv_at hl 3 rfl) ?_
    refine lv_aload_n hx hb dL_law_19 rfl (lv_at hl 0 rfl) ?_
    refine va_slen hx hb hX hbl hbA hI.2.2.1 dL_law_20 ?_
    refine lv_bipush (v := nI 6) hx hb dL_law_21 (by decide) ?_
    refine lv_isub hx hb dL_law_23 ?_
    refine lv_icmp_gt (tgt := 777) hx hb dL_law_24 (by decide) (fun _ => ?_) (fun q => absurd ((sub6 hL (by omega)).mpr (by omega)) q)
    refine lv_iconst (v := 1) hx hb dL_law_777 (by decide) ?_
    refine va_forget (fun q hq => hI.2.2.1.2.2 q hq) ?_
    exact lw_ret hx hb hr hlocks dL_law_778
  | succ n ih =>
    intro i h1 h2 σ τ H locs ls hI hR hl
    refine lv_iload_n hx hb dL_law_18 rfl (lv_at hl 3 rfl) ?_
    refine lv_aload_n hx hb dL_law_19 rfl (lv_at hl 0 rfl) ?_
    refine va_slen hx hb hX hbl hbA hI.2.2.1 dL_law_20 ?_
    refine lv_bipush (v := nI 6) hx hb dL_law_21 (by decide) ?_
    refine lv_isub hx hb dL_law_23 ?_
    refine lv_icmp_gt (tgt := 777) hx hb dL_law_24 (by decide) (fun q => ?_) (fun q => ?_)
    · refine lv_iconst (v := 1) hx hb dL_law_777 (by decide) ?_
      refine va_forget (fun q hq => hI.2.2.1.2.2 q hq) ?_
      exact lw_ret hx hb hr hlocks dL_law_778
    · have hi : i + 6 ≤ L := by
        rw [sub6 hL (by omega)] at q
        omega
      have next : ∀ (σ' τ' : St) (H1 : Heap) (locs1 : List Loc), LI D cyI cyZ tL tS adC adM s H1 locs1 σ' τ' → Rel σ' τ' → W p l e room_1 s m #[Value.ref b] below meth c H1 locs1 51 29470 (lw_Z below #[Value.ref b] s) (F0 m 771 ls []) := by
        intro σ' τ' H1 locs1 hI hR
        refine lv_iinc (v := nI (i + 6)) (lv' := [(3, .int (nI (i + 6))), (0, .ref b), (1, .ref (adC 0)), (2, .ref (adM 0))]) hx hb dL_law_771 hl (k := 3) rfl (nI_add i 6) (by decide) rfl (fun ls hl => ?_)
        refine lv_goto (tgt := 18) hx hb dL_law_774 (by decide) ?_
        exact ih (i + 6) (by omega) (by omega) σ' τ' H1 locs1 ls hI hR (lv_sub hl [1, 2, 3, 0] rfl)
      refine lv_aload_n hx hb dL_law_27 rfl (lv_at hl 0 rfl) ?_
      refine lv_iload_n hx hb dL_law_28 rfl (lv_at hl 3 rfl) ?_
      refine va_sld hx hb hX hbl hbA hI.2.2.1 ((vp_in_iffN (by omega)).mpr (by omega)) dL_law_29 ?_
      refine lv_bipush (v := nI 31) hx hb dL_law_30 (by decide) ?_
      refine lv_iand hx hb dL_law_32 ?_
      generalize xs (nI i).toNatClampNeg &&& nI 31 = x
      rcases ix3 x (n := 21) (by decide) with h | ⟨h0, h⟩ | ⟨j, hj, rfl⟩
      · refine lv_tableOut (tgt := 771) hx hb dL_law_33 (Or.inl ?_) (by decide) (next _ _ _ _ hI hR)
        exact Int32.lt_iff_toInt_lt.mp h
      · refine lv_tableOut (tgt := 771) hx hb dL_law_33 (Or.inr ?_) (by decide) (next _ _ _ _ hI hR)
        have := Int32.le_iff_toInt_le.mp h
        have e : (nI 21).toInt = 21 := by decide
        omega
      rcases (show j = 0 ∨ j = 1 ∨ j = 2 ∨ j = 3 ∨ j = 4 ∨ j = 5 ∨ j = 6 ∨ j = 7 ∨ j = 8 ∨ j = 9 ∨ j = 10 ∨ j = 11 ∨ j = 12 ∨ j = 13 ∨ j = 14 ∨ j = 15 ∨ j = 16 ∨ j = 17 ∨ j = 18 ∨ j = 19 ∨ j = 20 by omega) with rfl | rfl | rfl | rfl | rfl | rfl | rfl | rfl | rfl | rfl | rfl | rfl | rfl | rfl | rfl | rfl | rfl | rfl | rfl | rfl | rfl
      · exact lv_tableIn (off := 99) (tgt := 132) hx hb dL_law_33 (by decide) (by decide) rfl (by decide) (lc_0 C0 hX hbl hL hi hI hR hl next)
      · exact lv_tableIn (off := 162) (tgt := 195) hx hb dL_law_33 (by decide) (by decide) rfl (by decide) (lc_1 C0 hX hbl hL hi hI hR hl next)
      · exact lv_tableIn (off := 185) (tgt := 218) hx hb dL_law_33 (by decide) (by decide) rfl (by decide) (lc_2 C0 hX hbl hL hi hI hR hl next)
      · exact lv_tableIn (off := 198) (tgt := 231) hx hb dL_law_33 (by decide) (by decide) rfl (by decide) (lc_3 C0 hX hbl hL hi hI hR hl next)
      · exact lv_tableIn (off := 221) (tgt := 254) hx hb dL_law_33 (by decide) (by decide) rfl (by decide) (lc_4 C0 hX hbl hL hi hI hR hl next)
      · exact lv_tableIn (off := 244) (tgt := 277) hx hb dL_law_33 (by decide) (by decide) rfl (by decide) (lc_5 C0 hX hbl hL hi hI hR hl next)
      · exact lv_tableIn (off := 277) (tgt := 310) hx hb dL_law_33 (by decide) (by decide) rfl (by decide) (lc_6 C0 hX hbl hL hi hI hR hl next)
      · exact lv_tableIn (off := 310) (tgt := 343) hx hb dL_law_33 (by decide) (by decide) rfl (by decide) (lc_7 C0 hX hbl hL hi hI hR hl next)
      · exact lv_tableIn (off := 373) (tgt := 406) hx hb dL_law_33 (by decide) (by decide) rfl (by decide) (lc_8 C0 hX hbl hL hi hI hR hl next)
      · exact lv_tableIn (off := 416) (tgt := 449) hx hb dL_law_33 (by decide) (by decide) rfl (by decide) (lc_9 C0 hX hbl hL hi hI hR hl next)
      · exact lv_tableIn (off := 429) (tgt := 462) hx hb dL_law_33 (by decide) (by decide) rfl (by decide) (lc_10 C0 hX hbl hL hi hI hR hl next)
      · exact lv_tableIn (off := 442) (tgt := 475) hx hb dL_law_33 (by decide) (by decide) rfl (by decide) (lc_11 C0 hX hbl hL hi hI hR hl next)
      · exact lv_tableIn (off := 475) (tgt := 508) hx hb dL_law_33 (by decide) (by decide) rfl (by decide) (lc_12 C0 hX hbl hL hi hI hR hl next)
      · exact lv_tableIn (off := 508) (tgt := 541) hx hb dL_law_33 (by decide) (by decide) rfl (by decide) (lc_13 C0 hX hbl hL hi hI hR hl next)
      · exact lv_tableIn (off := 531) (tgt := 564) hx hb dL_law_33 (by decide) (by decide) rfl (by decide) (lc_14 C0 hX hbl hL hi hI hR hl next)
      · exact lv_tableIn (off := 564) (tgt := 597) hx hb dL_law_33 (by decide) (by decide) rfl (by decide) (lc_15 C0 hX hbl hL hi hI hR hl next)
      · exact lv_tableIn (off := 587) (tgt := 620) hx hb dL_law_33 (by decide) (by decide) rfl (by decide) (lc_16 C0 hX hbl hL hi hI hR hl next)
      · exact lv_tableIn (off := 620) (tgt := 653) hx hb dL_law_33 (by decide) (by decide) rfl (by decide) (lc_17 C0 hX hbl hL hi hI hR hl next)
      · exact lv_tableIn (off := 663) (tgt := 696) hx hb dL_law_33 (by decide) (by decide) rfl (by decide) (lc_18 C0 hX hbl hL hi hI hR hl next)
      · exact lv_tableIn (off := 686) (tgt := 719) hx hb dL_law_33 (by decide) (by decide) rfl (by decide) (lc_19 C0 hX hbl hL hi hI hR hl next)
      · exact lv_tableIn (off := 725) (tgt := 758) hx hb dL_law_33 (by decide) (by decide) rfl (by decide) (lc_20 C0 hX hbl hL hi hI hR hl next)
set_option maxHeartbeats 4000000 in
set_option maxRecDepth 100000 in
theorem whole_start {p : Program} {e : Env} {s : State} {m : MethodId} {below : List Frame} {meth : Method} {c : Code} (l : Launch) {b L : Nat} {xs : Nat → Int32} (hL : L ≤ 3072) (C0 : lw_At p s m meth c b L xs) : W p l e room_1 s m #[Value.ref b] below meth c s.heap [] 0 0 (lw_Z below #[Value.ref b] s) (entryFrame m ([Value.ref b] : List Value).toArray 4) := by
  obtain ⟨hx, hb, hr, hml, hown, hts, hX, hbl, hlocks, hgv⟩ := id C0
  have CX : Cx p s m #[Value.ref b] meth c code 4 ret RL lw_tbl := ⟨hx, hb, hr, hml, hown, hts, hlocks⟩
  have hA : ∀ q : Nat, s.heap.size ≤ q → (fun q : Nat => s.heap.size ≤ q) q := fun _ h => h
  have hAn : ∀ a : Nat, a < s.heap.size → ¬ (fun q : Nat => s.heap.size ≤ q) a := fun a h => Nat.not_le.mpr h
  obtain ⟨c0, iS0, hKn0⟩ := u_known (C := RX0) (T := TX0) (N := 3) (n := 3) hts iX0 (hts _ mi_X0)
  obtain ⟨c1, iS1, hKn1⟩ := u_known (C := RX1) (T := TX1) (N := 7) (n := 7) hts iX1 (hts _ mi_X1)
  obtain ⟨c2, iS2, hKn2⟩ := u_known (C := RX2) (T := TX2) (N := 2) (n := 2) hts iX2 (hts _ mi_X2)
  obtain ⟨c3, iS3, hKn3⟩ := u_known (C := RX3) (T := TX3) (N := 3) (n := 3) hts iX3 (hts _ mi_X3)
  obtain ⟨c4, iS4, hKn4⟩ := u_known (C := RX4) (T := TX4) (N := 5) (n := 5) hts iX4 (hts _ mi_X4)
  obtain ⟨c5, iS5, hKn5⟩ := u_known (C := RX5) (T := TX5) (N := 6) (n := 6) hts iX5 (hts _ mi_X5)
  obtain ⟨c6, iS6, hKn6⟩ := u_known (C := RX6) (T := TX6) (N := 7) (n := 7) hts iX6 (hts _ mi_X6)
  obtain ⟨c7, iS7, hKn7⟩ := u_known (C := RX7) (T := TX7) (N := 2) (n := 2) hts iX7 (hts _ mi_X7)
  obtain ⟨c8, iS8, hKn8⟩ := u_known (C := RX8) (T := TX8) (N := 9) (n := 9) hts iX8 (hts _ mi_X8)
  obtain ⟨c9, iS9, hKn9⟩ := u_known (C := RX9) (T := TX9) (N := 4) (n := 4) hts iX9 (hts _ mi_X9)
  obtain ⟨c10, iS10, hKn10⟩ := u_known (C := RX10) (T := TX10) (N := 9) (n := 9) hts iX10 (hts _ mi_X10)
  obtain ⟨c11, iS11, hKn11⟩ := u_known (C := RX11) (T := TX11) (N := 44) (n := 44) hts iX11 (hts _ mi_X11)
  obtain ⟨dC, dI, hKc⟩ : ∃ (dC : Nat → ClassId) (dI : Nat → Nat → Nat), ∀ (k : Nat) (q : vw_C), vwCl[k]? = some q → u_Kn s q.1 q.2.1 q.2.2 (dC k) (dI k) := by
    refine ⟨fun k => if k = 0 then c0 else if k = 1 then c1 else if k = 2 then c2 else if k = 3 then c3 else if k = 4 then c4 else if k = 5 then c5 else if k = 6 then c6 else if k = 7 then c7 else if k = 8 then c8 else if k = 9 then c9 else if k = 10 then c10 else c11, fun k => if k = 0 then iS0 else if k = 1 then iS1 else if k = 2 then iS2 else if k = 3 then iS3 else if k = 4 then iS4 else if k = 5 then iS5 else if k = 6 then iS6 else if k = 7 then iS7 else if k = 8 then iS8 else if k = 9 then iS9 else if k = 10 then iS10 else iS11, ?_⟩
    intro k q hq
    match k, hq with
    | 0, hq => cases hq; exact hKn0
    | 1, hq => cases hq; exact hKn1
    | 2, hq => cases hq; exact hKn2
    | 3, hq => cases hq; exact hKn3
    | 4, hq => cases hq; exact hKn4
    | 5, hq => cases hq; exact hKn5
    | 6, hq => cases hq; exact hKn6
    | 7, hq => cases hq; exact hKn7
    | 8, hq => cases hq; exact hKn8
    | 9, hq => cases hq; exact hKn9
    | 10, hq => cases hq; exact hKn10
    | 11, hq => cases hq; exact hKn11
    | k + 12, hq => simp [vwCl] at hq
  obtain ⟨cyI, kI, coI, hI1, hI2, hI3⟩ := Cond.arrayClass_spec (hts _ mL_aI)
  obtain ⟨cyZ, kZ, coZ, hZ1, hZ2, hZ3⟩ := Cond.arrayClass_spec (hts _ mL_aZ)
  have hK : va_K (dC, dI) vwCl (tyE cyI cyZ) s := by
    refine ⟨hKc, fun k q h => ?_⟩
    match k, h with
    | 0, h => cases h; exact ⟨fun n z => ⟨fun k h => (by cases h), kI, hI2, coI, hI3⟩, hI1⟩
    | 1, h => cases h; exact ⟨fun n z => ⟨fun k h => (by cases h), kZ, hZ2, coZ, hZ3⟩, hZ1⟩
    | k + 2, h => simp [tyE] at h
  have hs := flat_of_before _ hgv
  have hatL : (Cond.arrayOf (.static "StillText$Trials" "LONG_STEPS" "[I") .int).before #[Value.ref b] s = true := hs _ (by decide +kernel)
  have hntL : (Cond.eq (.length (.static "StillText$Trials" "LONG_STEPS" "[I")) (.int 4)).before #[Value.ref b] s = true := hs _ (by decide +kernel)
  have hetL0 : (Cond.eq (.elem (.static "StillText$Trials" "LONG_STEPS" "[I") (.int 0)) (.int 1)).before #[Value.ref b] s = true := hs _ (by decide +kernel)
  have hetL1 : (Cond.eq (.elem (.static "StillText$Trials" "LONG_STEPS" "[I") (.int 1)) (.int (-1))).before #[Value.ref b] s = true := hs _ (by decide +kernel)
  have hetL2 : (Cond.eq (.elem (.static "StillText$Trials" "LONG_STEPS" "[I") (.int 2)) (.int 0)).before #[Value.ref b] s = true := hs _ (by decide +kernel)
  have hetL3 : (Cond.eq (.elem (.static "StillText$Trials" "LONG_STEPS" "[I") (.int 3)) (.int 0)).before #[Value.ref b] s = true := hs _ (by decide +kernel)
  obtain ⟨tL, httL, hTtL⟩ := va_Tof (tm := (.static "StillText$Trials" "LONG_STEPS" "[I")) (ty := .int) (N := 4) (f := fun j => .int (fLs j)) (A := fun q : Nat => s.heap.size ≤ q) (by decide) hatL (va_eqt hntL) (fun j hj => by
    rcases (show j = 0 ∨ j = 1 ∨ j = 2 ∨ j = 3 by omega) with rfl | rfl | rfl | rfl
    · exact va_eqt hetL0
    · exact va_eqt hetL1
    · exact va_eqt hetL2
    · exact va_eqt hetL3) hAn
  have hatS : (Cond.arrayOf (.static "StillText$Trials" "SPREAD_STEPS" "[I") .int).before #[Value.ref b] s = true := hs _ (by decide +kernel)
  have hntS : (Cond.eq (.length (.static "StillText$Trials" "SPREAD_STEPS" "[I")) (.int 4)).before #[Value.ref b] s = true := hs _ (by decide +kernel)
  have hetS0 : (Cond.eq (.elem (.static "StillText$Trials" "SPREAD_STEPS" "[I") (.int 0)) (.int 0)).before #[Value.ref b] s = true := hs _ (by decide +kernel)
  have hetS1 : (Cond.eq (.elem (.static "StillText$Trials" "SPREAD_STEPS" "[I") (.int 1)) (.int 0)).before #[Value.ref b] s = true := hs _ (by decide +kernel)
  have hetS2 : (Cond.eq (.elem (.static "StillText$Trials" "SPREAD_STEPS" "[I") (.int 2)) (.int 1)).before #[Value.ref b] s = true := hs _ (by decide +kernel)
  have hetS3 : (Cond.eq (.elem (.static "StillText$Trials" "SPREAD_STEPS" "[I") (.int 3)) (.int (-1))).before #[Value.ref b] s = true := hs _ (by decide +kernel)
  obtain ⟨tS, httS, hTtS⟩ := va_Tof (tm := (.static "StillText$Trials" "SPREAD_STEPS" "[I")) (ty := .int) (N := 4) (f := fun j => .int (fSs j)) (A := fun q : Nat => s.heap.size ≤ q) (by decide) hatS (va_eqt hntS) (fun j hj => by
    rcases (show j = 0 ∨ j = 1 ∨ j = 2 ∨ j = 3 by omega) with rfl | rfl | rfl | rfl
    · exact va_eqt hetS0
    · exact va_eqt hetS1
    · exact va_eqt hetS2
    · exact va_eqt hetS3) hAn
  have hZz : Zz NwC (ZsC tL tS) (fun q : Nat => s.heap.size ≤ q) s s.heap := ⟨fun q hq => va_Nw.of rfl (hts _ (iNC q hq)), List.forall_mem_cons.mpr ⟨⟨va_Zof (hts _ mL_sL) (hts _ mL_i8) httL hAn, hTtL⟩, List.forall_mem_cons.mpr ⟨⟨va_Zof (hts _ mL_sS) (hts _ mL_i8) httS hAn, hTtS⟩, fun _ h => absurd h List.not_mem_nil⟩⟩⟩
  have hJ : Jw (dC, dI) (tyE cyI cyZ) NwJ [] (fun q : Nat => s.heap.size ≤ q) s s.heap [] := ⟨fun k q h => by simp at h, ⟨fun i j p q h => by simp at h, fun k q h => by simp at h⟩, va_S.rf, hK, hA, fun q hq => va_Nw.of rfl (hts _ (iNJ q hq))⟩
  have hl := lv_entry ([.ref b]) (n := 4) (Nat.le_of_ble_eq_true rfl)
  rw [lg_entry_eq]
  generalize (lg_sl ([.ref b]) ++ List.replicate (4 - (lg_sl ([.ref b])).length) Slot.unset).toArray = ls at hl ⊢
  have hl : lv_has ls 4 [(0, .ref b)] := hl
  refine j_new (k := 1) (n := 9) (ci := 10) (N := 9) hx hb hts iX10 tyX10 tyX10_ok hown mL_c10 mi_X10 mL_i10 hJ rfl [.null, .null, .null, .null, .null, .null, .null, .null, .null] (fun j hj => by rcases (show j = 0 ∨ j = 1 ∨ j = 2 ∨ j = 3 ∨ j = 4 ∨ j = 5 ∨ j = 6 ∨ j = 7 ∨ j = 8 by omega) with rfl | rfl | rfl | rfl | rfl | rfl | rfl | rfl | rfl <;> rfl) (Nat.le_of_ble_eq_true rfl) (Nat.le_of_ble_eq_true rfl) (Nat.le_of_ble_eq_true rfl) (Nat.le_of_ble_eq_true rfl) dL_law_0 (fun q0 H hJ => ?_)
  have hJ : Jw (dC, dI) (tyE cyI cyZ) NwJ [(q0, .inr (10, [.null, .null, .null, .null, .null, .null, .null, .null, .null]))] (fun q : Nat => s.heap.size ≤ q) s _ _ := hJ
  refine lv_dup hx hb dL_law_3 rfl ?_
  refine j_callI (k := 32) (nn := 14129) (As := []) (rest := [.ref q0]) (wr := []) CX (n_X10_init l (dC, dI) cyI cyZ q0) (cwI 0 hts gW_X10_init rfl rfl rfl (hts _ mL_i10) (hts _ mL_m10) (hts _ mL_n10) rfl hdX10_init ⟨(Nat.le_of_ble_eq_true rfl), (Nat.le_of_ble_eq_true rfl)⟩) hJ [0] [] rfl rfl rfl rfl rfl (by decide) rfl hl.1 rfl (Nat.le_of_ble_eq_true rfl) dL_law_4 (Nat.le_of_ble_eq_true rfl) (Nat.le_of_ble_eq_true rfl) (Nat.le_of_ble_eq_true rfl) (Nat.le_of_ble_eq_true rfl) (fun u0 H locs hJ => ?_)
  rw [List.nil_append] at hJ
  refine lv_astore_n (lv' := [(1, .ref q0), (0, .ref b)]) hx hb dL_law_7 rfl hl (by decide) rfl (fun ls hl => ?_)
  refine j_new (k := 33) (n := 14173) (ci := 11) (N := 44) hx hb hts iX11 tyX11 tyX11_ok hown mL_c11 mi_X11 mL_i11 hJ rfl [.int (nI 0), .null, .null, .null, .null, .null, .int (nI 0), .int (nI 0), .int (nI 0), .int (nI 0), .null, .null, .null, .int (nI 0), .int (nI 0), .int (nI 0), .int (nI 0), .int (nI 0), .int (nI 0), .int (nI 0), .null, .null, .null, .null, .int (nI 0), .int (nI 0), .int (nI 0), .null, .null, .null, .null, .int (nI 0), .int (nI 0), .int (nI 0), .null, .null, .int (nI 0), .int (nI 0), .int (nI 0), .int (nI 0), .int (nI 0), .int (nI 0), .int (nI 0), .int (nI 0)] (fun j hj => by rcases (show j = 0 ∨ j = 1 ∨ j = 2 ∨ j = 3 ∨ j = 4 ∨ j = 5 ∨ j = 6 ∨ j = 7 ∨ j = 8 ∨ j = 9 ∨ j = 10 ∨ j = 11 ∨ j = 12 ∨ j = 13 ∨ j = 14 ∨ j = 15 ∨ j = 16 ∨ j = 17 ∨ j = 18 ∨ j = 19 ∨ j = 20 ∨ j = 21 ∨ j = 22 ∨ j = 23 ∨ j = 24 ∨ j = 25 ∨ j = 26 ∨ j = 27 ∨ j = 28 ∨ j = 29 ∨ j = 30 ∨ j = 31 ∨ j = 32 ∨ j = 33 ∨ j = 34 ∨ j = 35 ∨ j = 36 ∨ j = 37 ∨ j = 38 ∨ j = 39 ∨ j = 40 ∨ j = 41 ∨ j = 42 ∨ j = 43 by omega) with rfl | rfl | rfl | rfl | rfl | rfl | rfl | rfl | rfl | rfl | rfl | rfl | rfl | rfl | rfl | rfl | rfl | rfl | rfl | rfl | rfl | rfl | rfl | rfl | rfl | rfl | rfl | rfl | rfl | rfl | rfl | rfl | rfl | rfl | rfl | rfl | rfl | rfl | rfl | rfl | rfl | rfl | rfl | rfl <;> rfl) (Nat.le_of_ble_eq_true rfl) (Nat.le_of_ble_eq_true rfl) (Nat.le_of_ble_eq_true rfl) (Nat.le_of_ble_eq_true rfl) dL_law_8 (fun q8 H hJ => ?_)
  refine lv_dup hx hb dL_law_11 rfl ?_
  refine j_callI (k := 51) (nn := 29470) (As := []) (rest := [.ref q8]) (wr := wC cyI cyZ (adH q0 u0) σ0C) CX (n_X11_init l (dC, dI) cyI cyZ q8) (cwI 0 hts gW_X11_init rfl rfl rfl (hts _ mL_i11) (hts _ mL_m11) (hts _ mL_n11) rfl hdX11_init ⟨(Nat.le_of_ble_eq_true rfl), (Nat.le_of_ble_eq_true rfl)⟩) hJ [32] [0, 1, 2, 3, 4, 5, 6, 7, 8, 9, 10, 11, 12, 13, 14, 15, 16, 17, 18, 19, 20, 21, 22, 23, 24, 25, 26, 27, 28, 29, 30, 31] rfl rfl rfl rfl rfl (by decide) rfl hl.1 rfl (Nat.le_of_ble_eq_true rfl) dL_law_12 (Nat.le_of_ble_eq_true rfl) (Nat.le_of_ble_eq_true rfl) (Nat.le_of_ble_eq_true rfl) (Nat.le_of_ble_eq_true rfl) (fun u8 H locs hJ => ?_)
  refine lv_astore_n (lv' := [(2, .ref q8), (1, .ref q0), (0, .ref b)]) hx hb dL_law_15 rfl hl (by decide) rfl (fun ls hl => ?_)
  refine lv_iconst (v := nI 0) hx hb dL_law_16 (by decide) ?_
  refine lv_istore_n (lv' := [(3, .int (nI 0)), (2, .ref q8), (1, .ref q0), (0, .ref b)]) hx hb dL_law_17 rfl hl (by decide) rfl (fun ls hl => ?_)
  exact law_loop (D := (dC, dI)) (cyI := cyI) (cyZ := cyZ) (tL := tL) (tS := tS) (adC := adH q0 u0) (adM := adH q8 u8) CX hX hbl hL (L + 1) 0 (by omega) (by omega) σ0C σ0M H locs ls ⟨hJ.1, hJ.2.1, hJ.2.2.1, hK, hZz⟩ rel0 (lv_sub hl [3, 2, 1, 0] rfl)
