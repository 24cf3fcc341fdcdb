section
variable {l : Launch} {D : va_G} {cyI cyZ : ClassId} {ad : Nat → Nat} {tL tS : Nat}
theorem inX6_holds_X6 : ∀ w ∈ wsX60, w ∈ wsX6_holds := fun _ h => List.mem_cons_of_mem _ (List.mem_append_right _ (h))
theorem mX6_holds_fieldLink_27_StillText_Strip_units_I : Cond.fieldLink RX6 27 "StillText$Strip" "units" "I" ∈ wsX6_holds := List.mem_cons_of_mem _ (List.mem_append_left _ (List.mem_of_getElem? (i := 0) rfl))
set_option maxHeartbeats 4000000 in
set_option maxRecDepth 100000 in
theorem c_X6_holds (σ : St) (x1 x2 : Int32) (Q : Int32 → St → Prop) (h : wp_X6_holds σ x1 x2 Q) : Ci l D (tyE cyI cyZ) NwC (ZsC tL tS) (wC cyI cyZ ad) yX6_holds wsX6_holds r_X6_holds [.ref (ad 15), .int x1, .int x2] σ Q := by
  refine k_metI (cc := cX6_holds) (maxL := 3) (ret := (some .boolean)) (by decide) rfl (Nat.le_of_ble_eq_true rfl) ?_
  intro p e s m below meth c A ls C hI hl
  obtain ⟨hx, hb, hr, hml, hown, hts, hlocks⟩ := id C
  have hl : lv_has ls 3 [(0, .ref (ad 15)), (1, .int x1), (2, .int x2)] := hl
  unfold wp_X6_holds at h
  refine lv_iload_n hx hb dX6_holds_0 rfl (lv_at hl 1 rfl) ?_
  refine lv_if_lt (tgt := 23) hx hb dX6_holds_1 (by decide) (fun c1 => ?_) (fun c1 => ?_)
  · replace h := h.1 c1
    refine lv_iconst (v := nI 0) hx hb dX6_holds_23 (by decide) ?_
    exact k_zret hx hb hr hlocks hI (Or.inl rfl) h dX6_holds_24
  · replace h := h.2 c1
    refine lv_iload_n hx hb dX6_holds_4 rfl (lv_at hl 2 rfl) ?_
    refine lv_iconst (v := nI 1) hx hb dX6_holds_5 (by decide) ?_
    refine lv_icmp_lt (tgt := 23) hx hb dX6_holds_6 (by decide) (fun c2 => ?_) (fun c2 => ?_)
    · replace h := h.1 c2
      refine lv_iconst (v := nI 0) hx hb dX6_holds_23 (by decide) ?_
      exact k_zret hx hb hr hlocks hI (Or.inl rfl) h dX6_holds_24
    · replace h := h.2 c2
      refine lv_iload_n hx hb dX6_holds_9 rfl (lv_at hl 2 rfl) ?_
      refine lv_aload_n hx hb dX6_holds_10 rfl (lv_at hl 0 rfl) ?_
      refine k_get (q0 := 15) (k := 5) (ci := 6) (v := .int (σ 15 5)) hx hb hts inX6_holds_X6 hown hI rfl rfl (by decide) mX6_holds_fieldLink_27_StillText_Strip_units_I rfl rfl dX6_holds_11 ?_
      refine lv_iload_n hx hb dX6_holds_14 rfl (lv_at hl 1 rfl) ?_
      refine lv_isub hx hb dX6_holds_15 ?_
      refine lv_icmp_gt (tgt := 23) hx hb dX6_holds_16 (by decide) (fun c3 => ?_) (fun c3 => ?_)
      · replace h := h.1 c3
        refine lv_iconst (v := nI 0) hx hb dX6_holds_23 (by decide) ?_
        exact k_zret hx hb hr hlocks hI (Or.inl rfl) h dX6_holds_24
      · replace h := h.2 c3
        refine lv_iconst (v := nI 1) hx hb dX6_holds_19 (by decide) ?_
        refine lv_goto (tgt := 24) hx hb dX6_holds_20 (by decide) ?_
        exact k_zret hx hb hr hlocks hI (Or.inr rfl) h dX6_holds_24
theorem inX6_body_X6 : ∀ w ∈ wsX60, w ∈ wsX6_body := fun _ h => List.mem_cons_of_mem _ (List.mem_append_right _ (h))
theorem mX6_body_fieldLink_21_StillText_Strip_ends_I : Cond.fieldLink RX6 21 "StillText$Strip" "ends" "[I" ∈ wsX6_body := List.mem_cons_of_mem _ (List.mem_append_left _ (List.mem_of_getElem? (i := 0) rfl))
theorem mX6_body_fieldLink_18_StillText_Strip_begins_I : Cond.fieldLink RX6 18 "StillText$Strip" "begins" "[I" ∈ wsX6_body := List.mem_cons_of_mem _ (List.mem_append_left _ (List.mem_of_getElem? (i := 1) rfl))
set_option maxHeartbeats 4000000 in
set_option maxRecDepth 100000 in
theorem c_X6_body (σ : St) (x1 x2 : Int32) (Q : Int32 → St → Prop) (h : wp_X6_body σ x1 x2 Q) : Ci l D (tyE cyI cyZ) NwC (ZsC tL tS) (wC cyI cyZ ad) yX6_body wsX6_body r_X6_body [.ref (ad 15), .int x1, .int x2] σ Q := by
  refine k_metI (cc := cX6_body) (maxL := 3) (ret := (some .int)) (by decide) rfl (Nat.le_of_ble_eq_true rfl) ?_
  intro p e s m below meth c A ls C hI hl
  obtain ⟨hx, hb, hr, hml, hown, hts, hlocks⟩ := id C
  have hl : lv_has ls 3 [(0, .ref (ad 15)), (1, .int x1), (2, .int x2)] := hl
  unfold wp_X6_body at h
  refine lv_aload_n hx hb dX6_body_0 rfl (lv_at hl 0 rfl) ?_
  refine lv_iload_n hx hb dX6_body_1 rfl (lv_at hl 1 rfl) ?_
  refine lv_iload_n hx hb dX6_body_2 rfl (lv_at hl 2 rfl) ?_
  refine k_cVi (As := [.int x1, .int x2]) (rest := []) C (c_X6_holds σ x1 x2 _ h) (cwV 2 hts gX6_body_X6_holds rfl rfl rfl hdX6_holds ⟨Nat.le_of_ble_eq_true rfl, Nat.le_of_ble_eq_true rfl⟩) hI 15 rfl rfl rfl hl.1 rfl (Nat.le_of_ble_eq_true rfl) dX6_body_3 ⟨Nat.le_of_ble_eq_true rfl, Nat.le_of_ble_eq_true rfl⟩ (fun r1 σ2 H locs h hI => ?_)
  refine lv_if_eq (tgt := 29) hx hb dX6_body_6 (by decide) (fun c3 => ?_) (fun c3 => ?_)
  · replace h := h.1 c3
    refine lv_iconst (v := nI 0) hx hb dX6_body_29 (by decide) ?_
    exact k_iret hx hb hr hlocks hI h dX6_body_30
  · replace h := h.2 c3
    refine lv_aload_n hx hb dX6_body_9 rfl (lv_at hl 0 rfl) ?_
    refine k_get (q0 := 15) (k := 3) (ci := 6) (v := .ref (ad 19)) hx hb hts inX6_body_X6 hown hI rfl rfl (by decide) mX6_body_fieldLink_21_StillText_Strip_ends_I rfl rfl dX6_body_10 ?_
    refine lv_iload_n hx hb dX6_body_13 rfl (lv_at hl 1 rfl) ?_
    refine lv_iload_n hx hb dX6_body_14 rfl (lv_at hl 2 rfl) ?_
    refine lv_iadd hx hb dX6_body_15 ?_
    refine lv_iconst (v := nI 1) hx hb dX6_body_16 (by decide) ?_
    refine lv_isub hx hb dX6_body_17 ?_
    refine k_iald (q0 := 19) (t0 := 0) (n := 80) (f := σ2 19) hx hb hI rfl rfl h.1 dX6_body_18 ?_
    replace h := h.2
    refine lv_aload_n hx hb dX6_body_19 rfl (lv_at hl 0 rfl) ?_
    refine k_get (q0 := 15) (k := 2) (ci := 6) (v := .ref (ad 18)) hx hb hts inX6_body_X6 hown hI rfl rfl (by decide) mX6_body_fieldLink_18_StillText_Strip_begins_I rfl rfl dX6_body_20 ?_
    refine lv_iload_n hx hb dX6_body_23 rfl (lv_at hl 1 rfl) ?_
    refine k_iald (q0 := 18) (t0 := 0) (n := 80) (f := σ2 18) hx hb hI rfl rfl h.1 dX6_body_24 ?_
    replace h := h.2
    refine lv_isub hx hb dX6_body_25 ?_
    refine lv_goto (tgt := 30) hx hb dX6_body_26 (by decide) ?_
    exact k_iret hx hb hr hlocks hI h dX6_body_30
theorem inX6_behindLine_X6 : ∀ w ∈ wsX60, w ∈ wsX6_behindLine := fun _ h => List.mem_cons_of_mem _ (List.mem_append_right _ (h))
theorem mX6_behindLine_fieldLink_24_StillText_Strip_behind_I : Cond.fieldLink RX6 24 "StillText$Strip" "behind" "[I" ∈ wsX6_behindLine := List.mem_cons_of_mem _ (List.mem_append_left _ (List.mem_of_getElem? (i := 0) rfl))
set_option maxHeartbeats 4000000 in
set_option maxRecDepth 100000 in
theorem c_X6_behindLine (σ : St) (x1 x2 : Int32) (Q : Int32 → St → Prop) (h : wp_X6_behindLine σ x1 x2 Q) : Ci l D (tyE cyI cyZ) NwC (ZsC tL tS) (wC cyI cyZ ad) yX6_behindLine wsX6_behindLine r_X6_behindLine [.ref (ad 15), .int x1, .int x2] σ Q := by
  refine k_metI (cc := cX6_behindLine) (maxL := 3) (ret := (some .int)) (by decide) rfl (Nat.le_of_ble_eq_true rfl) ?_
  intro p e s m below meth c A ls C hI hl
  obtain ⟨hx, hb, hr, hml, hown, hts, hlocks⟩ := id C
  have hl : lv_has ls 3 [(0, .ref (ad 15)), (1, .int x1), (2, .int x2)] := hl
  unfold wp_X6_behindLine at h
  refine lv_aload_n hx hb dX6_behindLine_0 rfl (lv_at hl 0 rfl) ?_
  refine lv_iload_n hx hb dX6_behindLine_1 rfl (lv_at hl 1 rfl) ?_
  refine lv_iload_n hx hb dX6_behindLine_2 rfl (lv_at hl 2 rfl) ?_
  refine k_cVi (As := [.int x1, .int x2]) (rest := []) C (c_X6_holds σ x1 x2 _ h) (cwV 2 hts gX6_behindLine_X6_holds rfl rfl rfl hdX6_holds ⟨Nat.le_of_ble_eq_true rfl, Nat.le_of_ble_eq_true rfl⟩) hI 15 rfl rfl rfl hl.1 rfl (Nat.le_of_ble_eq_true rfl) dX6_behindLine_3 ⟨Nat.le_of_ble_eq_true rfl, Nat.le_of_ble_eq_true rfl⟩ (fun r1 σ2 H locs h hI => ?_)
  refine lv_if_eq (tgt := 22) hx hb dX6_behindLine_6 (by decide) (fun c3 => ?_) (fun c3 => ?_)
  · replace h := h.1 c3
    refine lv_bipush (v := nI 32) hx hb dX6_behindLine_22 (by decide) ?_
    exact k_iret hx hb hr hlocks hI h dX6_behindLine_24
  · replace h := h.2 c3
    refine lv_aload_n hx hb dX6_behindLine_9 rfl (lv_at hl 0 rfl) ?_
    refine k_get (q0 := 15) (k := 4) (ci := 6) (v := .ref (ad 20)) hx hb hts inX6_behindLine_X6 hown hI rfl rfl (by decide) mX6_behindLine_fieldLink_24_StillText_Strip_behind_I rfl rfl dX6_behindLine_10 ?_
    refine lv_iload_n hx hb dX6_behindLine_13 rfl (lv_at hl 1 rfl) ?_
    refine lv_iload_n hx hb dX6_behindLine_14 rfl (lv_at hl 2 rfl) ?_
    refine lv_iadd hx hb dX6_behindLine_15 ?_
    refine lv_iconst (v := nI 1) hx hb dX6_behindLine_16 (by decide) ?_
    refine lv_isub hx hb dX6_behindLine_17 ?_
    refine k_iald (q0 := 20) (t0 := 0) (n := 80) (f := σ2 20) hx hb hI rfl rfl h.1 dX6_behindLine_18 ?_
    replace h := h.2
    refine lv_goto (tgt := 24) hx hb dX6_behindLine_19 (by decide) ?_
    exact k_iret hx hb hr hlocks hI h dX6_behindLine_24
set_option maxHeartbeats 4000000 in
set_option maxRecDepth 100000 in
theorem c_X6_signsOf (σ : St) (x1 x2 : Int32) (Q : Int32 → St → Prop) (h : wp_X6_signsOf σ x1 x2 Q) : Ci l D (tyE cyI cyZ) NwC (ZsC tL tS) (wC cyI cyZ ad) yX6_signsOf wsX6_signsOf r_X6_signsOf [.ref (ad 15), .int x1, .int x2] σ Q := by
  refine k_metI (cc := cX6_signsOf) (maxL := 3) (ret := (some .int)) (by decide) rfl (Nat.le_of_ble_eq_true rfl) ?_
  intro p e s m below meth c A ls C hI hl
  obtain ⟨hx, hb, hr, hml, hown, hts, hlocks⟩ := id C
  have hl : lv_has ls 3 [(0, .ref (ad 15)), (1, .int x1), (2, .int x2)] := hl
  unfold wp_X6_signsOf at h
  refine lv_aload_n hx hb dX6_signsOf_0 rfl (lv_at hl 0 rfl) ?_
  refine lv_iload_n hx hb dX6_signsOf_1 rfl (lv_at hl 1 rfl) ?_
  refine lv_iload_n hx hb dX6_signsOf_2 rfl (lv_at hl 2 rfl) ?_
  refine k_cVi (As := [.int x1, .int x2]) (rest := []) C (c_X6_body σ x1 x2 _ h) (cwV 2 hts gX6_signsOf_X6_body rfl rfl rfl hdX6_body ⟨Nat.le_of_ble_eq_true rfl, Nat.le_of_ble_eq_true rfl⟩) hI 15 rfl rfl rfl hl.1 rfl (Nat.le_of_ble_eq_true rfl) dX6_signsOf_3 ⟨Nat.le_of_ble_eq_true rfl, Nat.le_of_ble_eq_true rfl⟩ (fun r1 σ2 H locs h hI => ?_)
  refine lv_aload_n hx hb dX6_signsOf_6 rfl (lv_at hl 0 rfl) ?_
  refine lv_iload_n hx hb dX6_signsOf_7 rfl (lv_at hl 1 rfl) ?_
  refine lv_iload_n hx hb dX6_signsOf_8 rfl (lv_at hl 2 rfl) ?_
  refine k_cVi (As := [.int x1, .int x2]) (rest := [.int r1]) C (c_X6_behindLine σ2 x1 x2 _ h) (cwV 2 hts gX6_signsOf_X6_behindLine rfl rfl rfl hdX6_behindLine ⟨Nat.le_of_ble_eq_true rfl, Nat.le_of_ble_eq_true rfl⟩) hI 15 rfl rfl rfl hl.1 rfl (Nat.le_of_ble_eq_true rfl) dX6_signsOf_9 ⟨Nat.le_of_ble_eq_true rfl, Nat.le_of_ble_eq_true rfl⟩ (fun r3 σ4 H locs h hI => ?_)
  refine lv_bipush (v := nI 45) hx hb dX6_signsOf_12 (by decide) ?_
  refine lv_icmp_ne (tgt := 21) hx hb dX6_signsOf_14 (by decide) (fun c5 => ?_) (fun c5 => ?_)
  · replace h := h.1 c5
    refine lv_iconst (v := nI 0) hx hb dX6_signsOf_21 (by decide) ?_
    refine lv_iadd hx hb dX6_signsOf_22 ?_
    exact k_iret hx hb hr hlocks hI h dX6_signsOf_23
  · replace h := h.2 c5
    refine lv_iconst (v := nI 1) hx hb dX6_signsOf_17 (by decide) ?_
    refine lv_goto (tgt := 22) hx hb dX6_signsOf_18 (by decide) ?_
    refine lv_iadd hx hb dX6_signsOf_22 ?_
    exact k_iret hx hb hr hlocks hI h dX6_signsOf_23
theorem inX4_fits_X4 : ∀ w ∈ wsX40, w ∈ wsX4_fits := fun _ h => List.mem_cons_of_mem _ (List.mem_append_left _ (List.mem_append_left _ (List.mem_append_right _ (h))))
theorem mX4_fits_fieldLink_18_StillText_Setter_strip_LStillText_Strip : Cond.fieldLink RX4 18 "StillText$Setter" "strip" "LStillText$Strip;" ∈ wsX4_fits := List.mem_cons_of_mem _ (List.mem_append_left _ (List.mem_append_left _ (List.mem_append_left _ (List.mem_append_left _ (List.mem_of_getElem? (i := 0) rfl)))))
theorem mX4_fits_fieldLink_22_StillText_Setter_measures_LStillText_Measures : Cond.fieldLink RX4 22 "StillText$Setter" "measures" "LStillText$Measures;" ∈ wsX4_fits := List.mem_cons_of_mem _ (List.mem_append_left _ (List.mem_append_left _ (List.mem_append_left _ (List.mem_append_left _ (List.mem_of_getElem? (i := 1) rfl)))))
set_option maxHeartbeats 4000000 in
set_option maxRecDepth 100000 in
theorem c_X4_fits (σ : St) (x1 x2 : Int32) (Q : Int32 → St → Prop) (h : wp_X4_fits σ x1 x2 Q) : Ci l D (tyE cyI cyZ) NwC (ZsC tL tS) (wC cyI cyZ ad) yX4_fits wsX4_fits r_X4_fits [.ref (ad 23), .int x1, .int x2] σ Q := by
  refine k_metI (cc := cX4_fits) (maxL := 3) (ret := (some .boolean)) (by decide) rfl (Nat.le_of_ble_eq_true rfl) ?_
  intro p e s m below meth c A ls C hI hl
  obtain ⟨hx, hb, hr, hml, hown, hts, hlocks⟩ := id C
  have hl : lv_has ls 3 [(0, .ref (ad 23)), (1, .int x1), (2, .int x2)] := hl
  unfold wp_X4_fits at h
  refine lv_iload_n hx hb dX4_fits_0 rfl (lv_at hl 1 rfl) ?_
  refine lv_iload_n hx hb dX4_fits_1 rfl (lv_at hl 2 rfl) ?_
  refine lv_iadd hx hb dX4_fits_2 ?_
  refine lv_aload_n hx hb dX4_fits_3 rfl (lv_at hl 0 rfl) ?_
  refine k_get (q0 := 23) (k := 0) (ci := 4) (v := .ref (ad 15)) hx hb hts inX4_fits_X4 hown hI rfl rfl (by decide) mX4_fits_fieldLink_18_StillText_Setter_strip_LStillText_Strip rfl rfl dX4_fits_4 ?_
  refine k_cVi (As := []) (rest := [.int (x1 + x2)]) C (c_X6_units σ  _ h) (cwV 0 hts gX4_fits_X6_units rfl rfl rfl hdX6_units ⟨Nat.le_of_ble_eq_true rfl, Nat.le_of_ble_eq_true rfl⟩) hI 15 rfl rfl rfl hl.1 rfl (Nat.le_of_ble_eq_true rfl) dX4_fits_7 ⟨Nat.le_of_ble_eq_true rfl, Nat.le_of_ble_eq_true rfl⟩ (fun r1 σ2 H locs h hI => ?_)
  refine lv_icmp_gt (tgt := 36) hx hb dX4_fits_10 (by decide) (fun c3 => ?_) (fun c3 => ?_)
  · replace h := h.1 c3
    refine lv_iconst (v := nI 0) hx hb dX4_fits_36 (by decide) ?_
    exact k_zret hx hb hr hlocks hI (Or.inl rfl) h dX4_fits_37
  · replace h := h.2 c3
    refine lv_aload_n hx hb dX4_fits_13 rfl (lv_at hl 0 rfl) ?_
    refine k_get (q0 := 23) (k := 0) (ci := 4) (v := .ref (ad 15)) hx hb hts inX4_fits_X4 hown hI rfl rfl (by decide) mX4_fits_fieldLink_18_StillText_Setter_strip_LStillText_Strip rfl rfl dX4_fits_14 ?_
    refine lv_iload_n hx hb dX4_fits_17 rfl (lv_at hl 1 rfl) ?_
    refine lv_iload_n hx hb dX4_fits_18 rfl (lv_at hl 2 rfl) ?_
    refine k_cVi (As := [.int x1, .int x2]) (rest := []) C (c_X6_signsOf σ2 x1 x2 _ h) (cwV 2 hts gX4_fits_X6_signsOf rfl rfl rfl hdX6_signsOf ⟨Nat.le_of_ble_eq_true rfl, Nat.le_of_ble_eq_true rfl⟩) hI 15 rfl rfl rfl hl.1 rfl (Nat.le_of_ble_eq_true rfl) dX4_fits_19 ⟨Nat.le_of_ble_eq_true rfl, Nat.le_of_ble_eq_true rfl⟩ (fun r4 σ5 H locs h hI => ?_)
    refine lv_aload_n hx hb dX4_fits_22 rfl (lv_at hl 0 rfl) ?_
    refine k_get (q0 := 23) (k := 1) (ci := 4) (v := .ref (ad 12)) hx hb hts inX4_fits_X4 hown hI rfl rfl (by decide) mX4_fits_fieldLink_22_StillText_Setter_measures_LStillText_Measures rfl rfl dX4_fits_23 ?_
    refine k_cVi (As := []) (rest := [.int r4]) C (c_X1_longest σ5  _ h) (cwV 0 hts gX4_fits_X1_longest rfl rfl rfl hdX1_longest ⟨Nat.le_of_ble_eq_true rfl, Nat.le_of_ble_eq_true rfl⟩) hI 12 rfl rfl rfl hl.1 rfl (Nat.le_of_ble_eq_true rfl) dX4_fits_26 ⟨Nat.le_of_ble_eq_true rfl, Nat.le_of_ble_eq_true rfl⟩ (fun r6 σ7 H locs h hI => ?_)
    refine lv_icmp_gt (tgt := 36) hx hb dX4_fits_29 (by decide) (fun c8 => ?_) (fun c8 => ?_)
    · replace h := h.1 c8
      refine lv_iconst (v := nI 0) hx hb dX4_fits_36 (by decide) ?_
      exact k_zret hx hb hr hlocks hI (Or.inl rfl) h dX4_fits_37
    · replace h := h.2 c8
      refine lv_iconst (v := nI 1) hx hb dX4_fits_32 (by decide) ?_
      refine lv_goto (tgt := 37) hx hb dX4_fits_33 (by decide) ?_
      exact k_zret hx hb hr hlocks hI (Or.inr rfl) h dX4_fits_37
set_option maxHeartbeats 4000000 in
set_option maxRecDepth 100000 in
theorem c_X4_place (σ : St) (x0 x1 : Int32) (Q : Int32 → St → Prop) (h : wp_X4_place σ x0 x1 Q) : Ci l D (tyE cyI cyZ) NwC (ZsC tL tS) (wC cyI cyZ ad) yX4_place wsX4_place r_X4_place [.int x0, .int x1] σ Q := by
  refine k_metI (cc := cX4_place) (maxL := 2) (ret := (some .int)) (by decide) rfl (Nat.le_of_ble_eq_true rfl) ?_
  intro p e s m below meth c A ls C hI hl
  obtain ⟨hx, hb, hr, hml, hown, hts, hlocks⟩ := id C
  have hl : lv_has ls 2 [(0, .int x0), (1, .int x1)] := hl
  unfold wp_X4_place at h
  refine lv_iload_n hx hb dX4_place_0 rfl (lv_at hl 0 rfl) ?_
  refine lv_bipush (v := nI 60) hx hb dX4_place_1 (by decide) ?_
  refine lv_imul hx hb dX4_place_3 ?_
  refine lv_iload_n hx hb dX4_place_4 rfl (lv_at hl 1 rfl) ?_
  refine lv_iadd hx hb dX4_place_5 ?_
  refine lv_iconst (v := nI 1) hx hb dX4_place_6 (by decide) ?_
  refine lv_isub hx hb dX4_place_7 ?_
  exact k_iret hx hb hr hlocks hI h dX4_place_8
theorem inX1_strainOfEnd_X1 : ∀ w ∈ wsX10, w ∈ wsX1_strainOfEnd := fun _ h => List.mem_cons_of_mem _ (List.mem_append_right _ (h))
theorem mX1_strainOfEnd_fieldLink_21_StillText_Measures_phrase_I : Cond.fieldLink RX1 21 "StillText$Measures" "phrase" "I" ∈ wsX1_strainOfEnd := List.mem_cons_of_mem _ (List.mem_append_left _ (List.mem_of_getElem? (i := 0) rfl))
theorem mX1_strainOfEnd_fieldLink_27_StillText_Measures_cut_I : Cond.fieldLink RX1 27 "StillText$Measures" "cut" "I" ∈ wsX1_strainOfEnd := List.mem_cons_of_mem _ (List.mem_append_left _ (List.mem_of_getElem? (i := 1) rfl))
theorem mX1_strainOfEnd_fieldLink_24_StillText_Measures_inner_I : Cond.fieldLink RX1 24 "StillText$Measures" "inner" "I" ∈ wsX1_strainOfEnd := List.mem_cons_of_mem _ (List.mem_append_left _ (List.mem_of_getElem? (i := 2) rfl))
set_option maxHeartbeats 4000000 in
set_option maxRecDepth 100000 in
theorem c_X1_strainOfEnd (σ : St) (x1 : Int32) (Q : Int32 → St → Prop) (h : wp_X1_strainOfEnd σ x1 Q) : Ci l D (tyE cyI cyZ) NwC (ZsC tL tS) (wC cyI cyZ ad) yX1_strainOfEnd wsX1_strainOfEnd r_X1_strainOfEnd [.ref (ad 12), .int x1] σ Q := by
  refine k_metI (cc := cX1_strainOfEnd) (maxL := 2) (ret := (some .int)) (by decide) rfl (Nat.le_of_ble_eq_true rfl) ?_
  intro p e s m below meth c A ls C hI hl
  obtain ⟨hx, hb, hr, hml, hown, hts, hlocks⟩ := id C
  have hl : lv_has ls 2 [(0, .ref (ad 12)), (1, .int x1)] := hl
  unfold wp_X1_strainOfEnd at h
  refine lv_iload_n hx hb dX1_strainOfEnd_0 rfl (lv_at hl 1 rfl) ?_
  by_cases c1 : x1 = nI 44
  · replace h := h.1 c1
    refine lv_tableIn (off := 33) (tgt := 34) hx hb dX1_strainOfEnd_1 (by rw [c1]; decide) (by rw [c1]; decide) (by rw [c1]; rfl) (by decide) ?_
    refine lv_aload_n hx hb dX1_strainOfEnd_34 rfl (lv_at hl 0 rfl) ?_
    refine k_get (q0 := 12) (k := 3) (ci := 1) (v := .int (σ 12 3)) hx hb hts inX1_strainOfEnd_X1 hown hI rfl rfl (by decide) mX1_strainOfEnd_fieldLink_21_StillText_Measures_phrase_I rfl rfl dX1_strainOfEnd_35 ?_
    exact k_iret hx hb hr hlocks hI h dX1_strainOfEnd_38
  · replace h := h.2 c1
    by_cases c2 : x1 = nI 45
    · replace h := h.1 c2
      refine lv_tableIn (off := 38) (tgt := 39) hx hb dX1_strainOfEnd_1 (by rw [c2]; decide) (by rw [c2]; decide) (by rw [c2]; rfl) (by decide) ?_
      refine lv_aload_n hx hb dX1_strainOfEnd_39 rfl (lv_at hl 0 rfl) ?_
      refine k_get (q0 := 12) (k := 5) (ci := 1) (v := .int (σ 12 5)) hx hb hts inX1_strainOfEnd_X1 hown hI rfl rfl (by decide) mX1_strainOfEnd_fieldLink_27_StillText_Measures_cut_I rfl rfl dX1_strainOfEnd_40 ?_
      exact k_iret hx hb hr hlocks hI h dX1_strainOfEnd_43
    · replace h := h.2 c2
      by_cases c3 : x1 = nI 46
      · replace h := h.1 c3
        refine lv_tableIn (off := 31) (tgt := 32) hx hb dX1_strainOfEnd_1 (by rw [c3]; decide) (by rw [c3]; decide) (by rw [c3]; rfl) (by decide) ?_
        refine lv_iconst (v := nI 0) hx hb dX1_strainOfEnd_32 (by decide) ?_
        exact k_iret hx hb hr hlocks hI h dX1_strainOfEnd_33
      · replace h := h.2 c3
        by_cases c4 : x1 = nI 47
        · replace h := h.1 c4
          refine lv_tableIn (off := 33) (tgt := 34) hx hb dX1_strainOfEnd_1 (by rw [c4]; decide) (by rw [c4]; decide) (by rw [c4]; rfl) (by decide) ?_
          refine lv_aload_n hx hb dX1_strainOfEnd_34 rfl (lv_at hl 0 rfl) ?_
          refine k_get (q0 := 12) (k := 3) (ci := 1) (v := .int (σ 12 3)) hx hb hts inX1_strainOfEnd_X1 hown hI rfl rfl (by decide) mX1_strainOfEnd_fieldLink_21_StillText_Measures_phrase_I rfl rfl dX1_strainOfEnd_35 ?_
          exact k_iret hx hb hr hlocks hI h dX1_strainOfEnd_38
        · replace h := h.2 c4
          have ec1 := lv_neT c1 (a := 44) (by decide)
          have ec2 := lv_neT c2 (a := 45) (by decide)
          have ec3 := lv_neT c3 (a := 46) (by decide)
          have ec4 := lv_neT c4 (a := 47) (by decide)
          refine lv_tableOut (tgt := 44) hx hb dX1_strainOfEnd_1 (by omega) (by decide) ?_
          refine lv_aload_n hx hb dX1_strainOfEnd_44 rfl (lv_at hl 0 rfl) ?_
          refine k_get (q0 := 12) (k := 4) (ci := 1) (v := .int (σ 12 4)) hx hb hts inX1_strainOfEnd_X1 hown hI rfl rfl (by decide) mX1_strainOfEnd_fieldLink_24_StillText_Measures_inner_I rfl rfl dX1_strainOfEnd_45 ?_
          exact k_iret hx hb hr hlocks hI h dX1_strainOfEnd_48
theorem inX1_strainOfLine_X1 : ∀ w ∈ wsX10, w ∈ wsX1_strainOfLine := fun _ h => List.mem_cons_of_mem _ (List.mem_append_right _ (h))
theorem mX1_strainOfLine_fieldLink_9_StillText_Measures_longest_I : Cond.fieldLink RX1 9 "StillText$Measures" "longest" "I" ∈ wsX1_strainOfLine := List.mem_cons_of_mem _ (List.mem_append_left _ (List.mem_of_getElem? (i := 0) rfl))
theorem mX1_strainOfLine_fieldLink_18_StillText_Measures_shortest_I : Cond.fieldLink RX1 18 "StillText$Measures" "shortest" "I" ∈ wsX1_strainOfLine := List.mem_cons_of_mem _ (List.mem_append_left _ (List.mem_of_getElem? (i := 1) rfl))
set_option maxHeartbeats 4000000 in
set_option maxRecDepth 100000 in
theorem c_X1_strainOfLine (σ : St) (x1 x2 : Int32) (Q : Int32 → St → Prop) (h : wp_X1_strainOfLine σ x1 x2 Q) : Ci l D (tyE cyI cyZ) NwC (ZsC tL tS) (wC cyI cyZ ad) yX1_strainOfLine wsX1_strainOfLine r_X1_strainOfLine [.ref (ad 12), .int x1, .int x2] σ Q := by
  refine k_metI (cc := cX1_strainOfLine) (maxL := 4) (ret := (some .int)) (by decide) rfl (Nat.le_of_ble_eq_true rfl) ?_
  intro p e s m below meth c A ls C hI hl
  obtain ⟨hx, hb, hr, hml, hown, hts, hlocks⟩ := id C
  have hl : lv_has ls 4 [(0, .ref (ad 12)), (1, .int x1), (2, .int x2)] := hl
  unfold wp_X1_strainOfLine at h
  refine lv_aload_n hx hb dX1_strainOfLine_0 rfl (lv_at hl 0 rfl) ?_
  refine k_get (q0 := 12) (k := 0) (ci := 1) (v := .int (σ 12 0)) hx hb hts inX1_strainOfLine_X1 hown hI rfl rfl (by decide) mX1_strainOfLine_fieldLink_9_StillText_Measures_longest_I rfl rfl dX1_strainOfLine_1 ?_
  refine lv_iload_n hx hb dX1_strainOfLine_4 rfl (lv_at hl 1 rfl) ?_
  refine lv_isub hx hb dX1_strainOfLine_5 ?_
  refine lv_istore_n (lv' := [(3, .int ((σ 12 0) - x1)), (0, .ref (ad 12)), (1, .int x1), (2, .int x2)]) hx hb dX1_strainOfLine_6 rfl hl (by decide) rfl (fun ls hl => ?_)
  refine lv_iload_n hx hb dX1_strainOfLine_7 rfl (lv_at hl 0 rfl) ?_
  refine lv_iload_n hx hb dX1_strainOfLine_8 rfl (lv_at hl 0 rfl) ?_
  refine lv_imul hx hb dX1_strainOfLine_9 ?_
  refine lv_aload_n hx hb dX1_strainOfLine_10 rfl (lv_at hl 1 rfl) ?_
  refine k_get (q0 := 12) (k := 2) (ci := 1) (v := .int (σ 12 2)) hx hb hts inX1_strainOfLine_X1 hown hI rfl rfl (by decide) mX1_strainOfLine_fieldLink_18_StillText_Measures_shortest_I rfl rfl dX1_strainOfLine_11 ?_
  refine lv_imul hx hb dX1_strainOfLine_14 ?_
  refine lv_aload_n hx hb dX1_strainOfLine_15 rfl (lv_at hl 1 rfl) ?_
  refine lv_iload_n hx hb dX1_strainOfLine_16 rfl (lv_at hl 3 rfl) ?_
  refine k_cVi (As := [.int x2]) (rest := [.int ((((σ 12 0) - x1) * ((σ 12 0) - x1)) * (σ 12 2))]) C (c_X1_strainOfEnd σ x2 _ h) (cwV 1 hts gX1_strainOfLine_X1_strainOfEnd rfl rfl rfl hdX1_strainOfEnd ⟨Nat.le_of_ble_eq_true rfl, Nat.le_of_ble_eq_true rfl⟩) hI 12 rfl rfl rfl hl.1 rfl (Nat.le_of_ble_eq_true rfl) dX1_strainOfLine_17 ⟨Nat.le_of_ble_eq_true rfl, Nat.le_of_ble_eq_true rfl⟩ (fun r1 σ2 H locs h hI => ?_)
  refine lv_iadd hx hb dX1_strainOfLine_20 ?_
  exact k_iret hx hb hr hlocks hI h dX1_strainOfLine_21
theorem inX6_beginOf_X6 : ∀ w ∈ wsX60, w ∈ wsX6_beginOf := fun _ h => List.mem_cons_of_mem _ (List.mem_append_right _ (h))
theorem mX6_beginOf_fieldLink_18_StillText_Strip_begins_I : Cond.fieldLink RX6 18 "StillText$Strip" "begins" "[I" ∈ wsX6_beginOf := List.mem_cons_of_mem _ (List.mem_append_left _ (List.mem_of_getElem? (i := 0) rfl))
set_option maxHeartbeats 4000000 in
set_option maxRecDepth 100000 in
theorem c_X6_beginOf (σ : St) (x1 : Int32) (Q : Int32 → St → Prop) (h : wp_X6_beginOf σ x1 Q) : Ci l D (tyE cyI cyZ) NwC (ZsC tL tS) (wC cyI cyZ ad) yX6_beginOf wsX6_beginOf r_X6_beginOf [.ref (ad 15), .int x1] σ Q := by
  refine k_metI (cc := cX6_beginOf) (maxL := 2) (ret := (some .int)) (by decide) rfl (Nat.le_of_ble_eq_true rfl) ?_
  intro p e s m below meth c A ls C hI hl
  obtain ⟨hx, hb, hr, hml, hown, hts, hlocks⟩ := id C
  have hl : lv_has ls 2 [(0, .ref (ad 15)), (1, .int x1)] := hl
  unfold wp_X6_beginOf at h
  refine lv_aload_n hx hb dX6_beginOf_0 rfl (lv_at hl 0 rfl) ?_
  refine lv_iload_n hx hb dX6_beginOf_1 rfl (lv_at hl 1 rfl) ?_
  refine lv_iconst (v := nI 1) hx hb dX6_beginOf_2 (by decide) ?_
  refine k_cVi (As := [.int x1, .int (nI 1)]) (rest := []) C (c_X6_holds σ x1 (nI 1) _ h) (cwV 2 hts gX6_beginOf_X6_holds rfl rfl rfl hdX6_holds ⟨Nat.le_of_ble_eq_true rfl, Nat.le_of_ble_eq_true rfl⟩) hI 15 rfl rfl rfl hl.1 rfl (Nat.le_of_ble_eq_true rfl) dX6_beginOf_3 ⟨Nat.le_of_ble_eq_true rfl, Nat.le_of_ble_eq_true rfl⟩ (fun r1 σ2 H locs h hI => ?_)
  refine lv_if_eq (tgt := 18) hx hb dX6_beginOf_6 (by decide) (fun c3 => ?_) (fun c3 => ?_)
  · replace h := h.1 c3
    refine lv_iconst (v := nI 0) hx hb dX6_beginOf_18 (by decide) ?_
    exact k_iret hx hb hr hlocks hI h dX6_beginOf_19
  · replace h := h.2 c3
    refine lv_aload_n hx hb dX6_beginOf_9 rfl (lv_at hl 0 rfl) ?_
    refine k_get (q0 := 15) (k := 2) (ci := 6) (v := .ref (ad 18)) hx hb hts inX6_beginOf_X6 hown hI rfl rfl (by decide) mX6_beginOf_fieldLink_18_StillText_Strip_begins_I rfl rfl dX6_beginOf_10 ?_
    refine lv_iload_n hx hb dX6_beginOf_13 rfl (lv_at hl 1 rfl) ?_
    refine k_iald (q0 := 18) (t0 := 0) (n := 80) (f := σ2 18) hx hb hI rfl rfl h.1 dX6_beginOf_14 ?_
    replace h := h.2
    refine lv_goto (tgt := 19) hx hb dX6_beginOf_15 (by decide) ?_
    exact k_iret hx hb hr hlocks hI h dX6_beginOf_19
theorem inX1_strainOfPlace_X1 : ∀ w ∈ wsX10, w ∈ wsX1_strainOfPlace := fun _ h => List.mem_cons_of_mem _ (List.mem_append_right _ (h))
theorem mX1_strainOfPlace_fieldLink_30_StillText_Measures_places_I : Cond.fieldLink RX1 30 "StillText$Measures" "places" "[I" ∈ wsX1_strainOfPlace := List.mem_cons_of_mem _ (List.mem_append_left _ (List.mem_of_getElem? (i := 0) rfl))
set_option maxHeartbeats 4000000 in
set_option maxRecDepth 100000 in
theorem c_X1_strainOfPlace (σ : St) (x1 x2 : Int32) (Q : Int32 → St → Prop) (h : wp_X1_strainOfPlace σ x1 x2 Q) : Ci l D (tyE cyI cyZ) NwC (ZsC tL tS) (wC cyI cyZ ad) yX1_strainOfPlace wsX1_strainOfPlace r_X1_strainOfPlace [.ref (ad 12), .int x1, .int x2] σ Q := by
  refine k_metI (cc := cX1_strainOfPlace) (maxL := 3) (ret := (some .int)) (by decide) rfl (Nat.le_of_ble_eq_true rfl) ?_
  intro p e s m below meth c A ls C hI hl
  obtain ⟨hx, hb, hr, hml, hown, hts, hlocks⟩ := id C
  have hl : lv_has ls 3 [(0, .ref (ad 12)), (1, .int x1), (2, .int x2)] := hl
  unfold wp_X1_strainOfPlace at h
  refine lv_aload_n hx hb dX1_strainOfPlace_0 rfl (lv_at hl 0 rfl) ?_
  refine k_get (q0 := 12) (k := 6) (ci := 1) (v := .ref (ad 13)) hx hb hts inX1_strainOfPlace_X1 hown hI rfl rfl (by decide) mX1_strainOfPlace_fieldLink_30_StillText_Measures_places_I rfl rfl dX1_strainOfPlace_1 ?_
  refine lv_iload_n hx hb dX1_strainOfPlace_4 rfl (lv_at hl 1 rfl) ?_
  refine lv_iload_n hx hb dX1_strainOfPlace_5 rfl (lv_at hl 2 rfl) ?_
  refine k_cSi (As := [.int x1, .int x2]) (rest := [.ref (ad 13)]) C (c_X1_pair σ x1 x2 _ h) (va_cwS 2 hts gX1_strainOfPlace_X1_pair rfl rfl rfl hdX1_pair ⟨Nat.le_of_ble_eq_true rfl, Nat.le_of_ble_eq_true rfl⟩) hI rfl hl.1 rfl (Nat.le_of_ble_eq_true rfl) dX1_strainOfPlace_6 ⟨Nat.le_of_ble_eq_true rfl, Nat.le_of_ble_eq_true rfl⟩ (fun r1 σ2 H locs h hI => ?_)
  refine k_iald (q0 := 13) (t0 := 0) (n := 784) (f := σ2 13) hx hb hI rfl rfl h.1 dX1_strainOfPlace_9 ?_
  replace h := h.2
  exact k_iret hx hb hr hlocks hI h dX1_strainOfPlace_10
theorem inX6_strainOfPlaces_X6 : ∀ w ∈ wsX60, w ∈ wsX6_strainOfPlaces := fun _ h => List.mem_cons_of_mem _ (List.mem_append_left _ (List.mem_append_right _ (h)))
theorem mX6_strainOfPlaces_fieldLink_31_StillText_Strip_length_I : Cond.fieldLink RX6 31 "StillText$Strip" "length" "I" ∈ wsX6_strainOfPlaces := List.mem_cons_of_mem _ (List.mem_append_left _ (List.mem_append_left _ (List.mem_of_getElem? (i := 0) rfl)))
theorem mX6_strainOfPlaces_fieldLink_15_StillText_Strip_kinds_I : Cond.fieldLink RX6 15 "StillText$Strip" "kinds" "[I" ∈ wsX6_strainOfPlaces := List.mem_cons_of_mem _ (List.mem_append_left _ (List.mem_append_left _ (List.mem_of_getElem? (i := 1) rfl)))
set_option maxHeartbeats 4000000 in
set_option maxRecDepth 100000 in
theorem t_X6_strainOfPlaces_12_6 {p : Program} {e : Env} {s : State} {m : MethodId} {args : Array Value} {below : List Frame} {meth : Method} {c : Code} {A : Nat → Prop} {x1 x2 x3 x4 : Int32}  {Q : Int32 → St → Prop} (C : Cx p s m args meth c cX6_strainOfPlaces 8 (some .int) RX6 wsX6_strainOfPlaces) :
    ∀ (n : Nat) (σ : St) (x6 x7 : Int32) (H : Heap) (locs : List Loc) (ls : Array Slot), wpl_X6_strainOfPlaces_12_6 x1 x2 x3 x4 Q n σ x6 x7 → Iw D (tyE cyI cyZ) NwC (ZsC tL tS) (wC cyI cyZ ad) A s H locs σ → lv_has ls 8 [(0, .ref (ad 15)), (1, .int x1), (2, .int x2), (3, .int x3), (4, .int x4), (5, .ref (ad 12)), (6, .int x6), (7, .int x7)] → W p l e r_X6_strainOfPlaces_12 s m args below meth c H locs 0 0 (MQ below (va_Qi Q (Kq D (tyE cyI cyZ) (wC cyI cyZ ad) A) A) args s 0 0 A) (F0 m 6 ls []) := by
  obtain ⟨hx, hb, hr, hml, hown, hts, hlocks⟩ := id C
  intro n
  induction n with
  | zero =>
    intro _ _ _ _ _ _ h
    exact h.elim
  | succ n ih =>
    intro σ x6 x7 H locs ls h hI hl
    unfold wpl_X6_strainOfPlaces_12_6 at h
    refine lv_iload hx hb dX6_strainOfPlaces_6 (lv_at hl 7 rfl) ?_
    refine lv_iload hx hb dX6_strainOfPlaces_8 (lv_at hl 4 rfl) ?_
    refine lv_icmp_ge (tgt := 58) hx hb dX6_strainOfPlaces_10 (by decide) (fun c1 => ?_) (fun c1 => ?_)
    · replace h := h.1 c1
      refine lv_iload hx hb dX6_strainOfPlaces_58 (lv_at hl 6 rfl) ?_
      exact k_iret hx hb hr hlocks hI h dX6_strainOfPlaces_60
    · replace h := h.2 c1
      refine lv_iload_n hx hb dX6_strainOfPlaces_13 rfl (lv_at hl 2 rfl) ?_
      refine lv_iload hx hb dX6_strainOfPlaces_14 (lv_at hl 7 rfl) ?_
      refine lv_iadd hx hb dX6_strainOfPlaces_16 ?_
      refine lv_aload_n hx hb dX6_strainOfPlaces_17 rfl (lv_at hl 0 rfl) ?_
      refine k_get (q0 := 15) (k := 6) (ci := 6) (v := .int (σ 15 6)) hx hb hts inX6_strainOfPlaces_X6 hown hI rfl rfl (by decide) mX6_strainOfPlaces_fieldLink_31_StillText_Strip_length_I rfl rfl dX6_strainOfPlaces_18 ?_
      refine lv_icmp_ge (tgt := 58) hx hb dX6_strainOfPlaces_21 (by decide) (fun c2 => ?_) (fun c2 => ?_)
      · replace h := h.1 c2
        refine lv_iload hx hb dX6_strainOfPlaces_58 (lv_at hl 6 rfl) ?_
        exact k_iret hx hb hr hlocks hI h dX6_strainOfPlaces_60
      · replace h := h.2 c2
        refine lv_iload hx hb dX6_strainOfPlaces_24 (lv_at hl 6 rfl) ?_
        refine lv_aload hx hb dX6_strainOfPlaces_26 (lv_at hl 5 rfl) ?_
        refine lv_aload_n hx hb dX6_strainOfPlaces_28 rfl (lv_at hl 0 rfl) ?_
        refine k_get (q0 := 15) (k := 1) (ci := 6) (v := .ref (ad 17)) hx hb hts inX6_strainOfPlaces_X6 hown hI rfl rfl (by decide) mX6_strainOfPlaces_fieldLink_15_StillText_Strip_kinds_I rfl rfl dX6_strainOfPlaces_29 ?_
        refine lv_iload_n hx hb dX6_strainOfPlaces_32 rfl (lv_at hl 1 rfl) ?_
        refine lv_iload hx hb dX6_strainOfPlaces_33 (lv_at hl 7 rfl) ?_
        refine lv_iadd hx hb dX6_strainOfPlaces_35 ?_
        refine k_iald (q0 := 17) (t0 := 0) (n := 1920) (f := σ 17) hx hb hI rfl rfl h.1 dX6_strainOfPlaces_36 ?_
        replace h := h.2
        refine lv_aload_n hx hb dX6_strainOfPlaces_37 rfl (lv_at hl 0 rfl) ?_
        refine k_get (q0 := 15) (k := 1) (ci := 6) (v := .ref (ad 17)) hx hb hts inX6_strainOfPlaces_X6 hown hI rfl rfl (by decide) mX6_strainOfPlaces_fieldLink_15_StillText_Strip_kinds_I rfl rfl dX6_strainOfPlaces_38 ?_
        refine lv_iload_n hx hb dX6_strainOfPlaces_41 rfl (lv_at hl 2 rfl) ?_
        refine lv_iload hx hb dX6_strainOfPlaces_42 (lv_at hl 7 rfl) ?_
        refine lv_iadd hx hb dX6_strainOfPlaces_44 ?_
        refine k_iald (q0 := 17) (t0 := 0) (n := 1920) (f := σ 17) hx hb hI rfl rfl h.1 dX6_strainOfPlaces_45 ?_
        replace h := h.2
        refine k_cVi (As := [.int (σ 17 (x1 + x7).toNatClampNeg), .int (σ 17 (x2 + x7).toNatClampNeg)]) (rest := [.int x6]) C (c_X1_strainOfPlace σ (σ 17 (x1 + x7).toNatClampNeg) (σ 17 (x2 + x7).toNatClampNeg) _ h) (cwV 2 hts gX6_strainOfPlaces_X1_strainOfPlace rfl rfl rfl hdX1_strainOfPlace ⟨Nat.le_of_ble_eq_true rfl, Nat.le_of_ble_eq_true rfl⟩) hI 12 rfl rfl rfl hl.1 rfl (Nat.le_of_ble_eq_true rfl) dX6_strainOfPlaces_46 ⟨Nat.le_of_ble_eq_true rfl, Nat.le_of_ble_eq_true rfl⟩ (fun r3 σ4 H locs h hI => ?_)
        refine lv_iadd hx hb dX6_strainOfPlaces_49 ?_
        refine lv_istore (lv' := [(6, .int (x6 + r3)), (0, .ref (ad 15)), (1, .int x1), (2, .int x2), (3, .int x3), (4, .int x4), (5, .ref (ad 12)), (7, .int x7)]) hx hb dX6_strainOfPlaces_50 hl (by decide) rfl (fun ls hl => ?_)
        refine lv_iinc (v := (x7 + nI 1)) (lv' := [(7, .int (x7 + nI 1)), (6, .int (x6 + r3)), (0, .ref (ad 15)), (1, .int x1), (2, .int x2), (3, .int x3), (4, .int x4), (5, .ref (ad 12))]) hx hb dX6_strainOfPlaces_52 hl (k := 7) rfl rfl (by decide) rfl (fun ls hl => ?_)
        refine lv_goto (tgt := 6) hx hb dX6_strainOfPlaces_55 (by decide) ?_
        exact ih _ _ _ _ _ _ h hI (lv_sub hl [2, 3, 4, 5, 6, 7, 1, 0] rfl)
set_option maxHeartbeats 4000000 in
set_option maxRecDepth 100000 in
theorem c_X6_strainOfPlaces_12 (σ : St) (x1 x2 x3 x4 : Int32) (Q : Int32 → St → Prop) (h : wp_X6_strainOfPlaces_12 σ x1 x2 x3 x4 Q) : Ci l D (tyE cyI cyZ) NwC (ZsC tL tS) (wC cyI cyZ ad) yX6_strainOfPlaces wsX6_strainOfPlaces r_X6_strainOfPlaces_12 [.ref (ad 15), .int x1, .int x2, .int x3, .int x4, .ref (ad 12)] σ Q := by
  refine k_metI (cc := cX6_strainOfPlaces) (maxL := 8) (ret := (some .int)) (by decide) rfl (Nat.le_of_ble_eq_true rfl) ?_
  intro p e s m below meth c A ls C hI hl
  obtain ⟨hx, hb, hr, hml, hown, hts, hlocks⟩ := id C
  have hl : lv_has ls 8 [(0, .ref (ad 15)), (1, .int x1), (2, .int x2), (3, .int x3), (4, .int x4), (5, .ref (ad 12))] := hl
  unfold wp_X6_strainOfPlaces_12 at h
  refine lv_iconst (v := nI 0) hx hb dX6_strainOfPlaces_0 (by decide) ?_
  refine lv_istore (lv' := [(6, .int (nI 0)), (0, .ref (ad 15)), (1, .int x1), (2, .int x2), (3, .int x3), (4, .int x4), (5, .ref (ad 12))]) hx hb dX6_strainOfPlaces_1 hl (by decide) rfl (fun ls hl => ?_)
  refine lv_iload_n hx hb dX6_strainOfPlaces_3 rfl (lv_at hl 4 rfl) ?_
  refine lv_istore (lv' := [(7, .int x3), (6, .int (nI 0)), (0, .ref (ad 15)), (1, .int x1), (2, .int x2), (3, .int x3), (4, .int x4), (5, .ref (ad 12))]) hx hb dX6_strainOfPlaces_4 hl (by decide) rfl (fun ls hl => ?_)
  obtain ⟨k5, h⟩ := h
  exact t_X6_strainOfPlaces_12_6 C  k5 _ _ _ _ _ _ h hI (lv_sub hl [2, 3, 4, 5, 6, 7, 1, 0] rfl)
theorem inX4_leastBelow_X4 : ∀ w ∈ wsX40, w ∈ wsX4_leastBelow := fun _ h => List.mem_cons_of_mem _ (List.mem_append_left _ (List.mem_append_left _ (List.mem_append_right _ (h))))
theorem mX4_leastBelow_fieldLink_47_StillText_Setter_chosen_I : Cond.fieldLink RX4 47 "StillText$Setter" "chosen" "I" ∈ wsX4_leastBelow := List.mem_cons_of_mem _ (List.mem_append_left _ (List.mem_append_left _ (List.mem_append_left _ (List.mem_append_left _ (List.mem_of_getElem? (i := 0) rfl)))))
theorem mX4_leastBelow_fieldLink_18_StillText_Setter_strip_LStillText_Strip : Cond.fieldLink RX4 18 "StillText$Setter" "strip" "LStillText$Strip;" ∈ wsX4_leastBelow := List.mem_cons_of_mem _ (List.mem_append_left _ (List.mem_append_left _ (List.mem_append_left _ (List.mem_append_left _ (List.mem_of_getElem? (i := 1) rfl)))))
theorem mX4_leastBelow_fieldLink_9_StillText_Setter_most_I : Cond.fieldLink RX4 9 "StillText$Setter" "most" "[I" ∈ wsX4_leastBelow := List.mem_cons_of_mem _ (List.mem_append_left _ (List.mem_append_left _ (List.mem_append_left _ (List.mem_append_left _ (List.mem_of_getElem? (i := 2) rfl)))))
theorem mX4_leastBelow_methodLink_78_Lib_Math_min_name : Cond.methodLink RX4 78 Lib.Math.min.name ∈ wsX4_leastBelow := List.mem_cons_of_mem _ (List.mem_append_left _ (List.mem_append_left _ (List.mem_append_left _ (List.mem_append_left _ (List.mem_of_getElem? (i := 3) rfl)))))
theorem mX4_leastBelow_static_Lib_Math_min_name : Cond.static Lib.Math.min.name ∈ wsX4_leastBelow := List.mem_cons_of_mem _ (List.mem_append_left _ (List.mem_append_left _ (List.mem_append_left _ (List.mem_append_left _ (List.mem_of_getElem? (i := 4) rfl)))))
theorem mX4_leastBelow_initialized_java_lang_Math : Cond.initialized "java/lang/Math" ∈ wsX4_leastBelow := List.mem_cons_of_mem _ (List.mem_append_left _ (List.mem_append_left _ (List.mem_append_left _ (List.mem_append_left _ (List.mem_of_getElem? (i := 5) rfl)))))
theorem mX4_leastBelow_code_Lib_Math_min_name_Lib_Math_min_code_2_some_int : Cond.code Lib.Math.min.name Lib.Math.min.code 2 (some .int) ∈ wsX4_leastBelow := List.mem_cons_of_mem _ (List.mem_append_left _ (List.mem_append_left _ (List.mem_append_left _ (List.mem_append_left _ (List.mem_of_getElem? (i := 6) rfl)))))
theorem mX4_leastBelow_fieldLink_22_StillText_Setter_measures_LStillText_Measures : Cond.fieldLink RX4 22 "StillText$Setter" "measures" "LStillText$Measures;" ∈ wsX4_leastBelow := List.mem_cons_of_mem _ (List.mem_append_left _ (List.mem_append_left _ (List.mem_append_left _ (List.mem_append_left _ (List.mem_of_getElem? (i := 7) rfl)))))
theorem mX4_leastBelow_fieldLink_15_StillText_Setter_least_I : Cond.fieldLink RX4 15 "StillText$Setter" "least" "[I" ∈ wsX4_leastBelow := List.mem_cons_of_mem _ (List.mem_append_left _ (List.mem_append_left _ (List.mem_append_left _ (List.mem_append_left _ (List.mem_of_getElem? (i := 8) rfl)))))
set_option maxHeartbeats 4000000 in
set_option maxRecDepth 100000 in
theorem t_X4_leastBelow_51 {p : Program} {e : Env} {s : State} {m : MethodId} {args : Array Value} {below : List Frame} {meth : Method} {c : Code} {A : Nat → Prop} {x1 x2 x3 x5 x6 : Int32}  {Q : Int32 → St → Prop} (C : Cx p s m args meth c cX4_leastBelow 12 (some .int) RX4 wsX4_leastBelow) :
    ∀ (n : Nat) (σ : St) (x4 x7 x8 x9 : Int32) (H : Heap) (locs : List Loc) (ls : Array Slot), wpl_X4_leastBelow_51 x1 x2 x3 x5 x6 Q n σ x4 x7 x8 x9 → Iw D (tyE cyI cyZ) NwC (ZsC tL tS) (wC cyI cyZ ad) A s H locs σ → lv_has ls 12 [(0, .ref (ad 23)), (1, .int x1), (2, .int x2), (3, .int x3), (4, .int x4), (5, .int x5), (6, .int x6), (7, .int x7), (8, .int x8), (9, .int x9)] → W p l e r_X4_leastBelow s m args below meth c H locs 0 0 (MQ below (va_Qi Q (Kq D (tyE cyI cyZ) (wC cyI cyZ ad) A) A) args s 0 0 A) (F0 m 51 ls []) := by
  obtain ⟨hx, hb, hr, hml, hown, hts, hlocks⟩ := id C
  intro n
  induction n with
  | zero =>
    intro _ _ _ _ _ _ _ _ h
    exact h.elim
  | succ n ih =>
    intro σ x4 x7 x8 x9 H locs ls h hI hl
    unfold wpl_X4_leastBelow_51 at h
    refine lv_iload hx hb dX4_leastBelow_51 (lv_at hl 9 rfl) ?_
    refine lv_aload_n hx hb dX4_leastBelow_53 rfl (lv_at hl 0 rfl) ?_
    refine k_get (q0 := 23) (k := 2) (ci := 4) (v := .ref (ad 24)) hx hb hts inX4_leastBelow_X4 hown hI rfl rfl (by decide) mX4_leastBelow_fieldLink_9_StillText_Setter_most_I rfl rfl dX4_leastBelow_54 ?_
    refine lv_iload_n hx hb dX4_leastBelow_57 rfl (lv_at hl 3 rfl) ?_
    refine k_iald (q0 := 24) (t0 := 0) (n := 80) (f := σ 24) hx hb hI rfl rfl h.1 dX4_leastBelow_58 ?_
    replace h := h.2
    refine lv_icmp_gt (tgt := 152) hx hb dX4_leastBelow_59 (by decide) (fun c8 => ?_) (fun c8 => ?_)
    · replace h := h.1 c8
      refine lv_iload hx hb dX4_leastBelow_152 (lv_at hl 4 rfl) ?_
      exact k_iret hx hb hr hlocks hI h dX4_leastBelow_154
    · replace h := h.2 c8
      refine lv_iload_n hx hb dX4_leastBelow_62 rfl (lv_at hl 2 rfl) ?_
      refine lv_aload_n hx hb dX4_leastBelow_63 rfl (lv_at hl 0 rfl) ?_
      refine k_get (q0 := 23) (k := 0) (ci := 4) (v := .ref (ad 15)) hx hb hts inX4_leastBelow_X4 hown hI rfl rfl (by decide) mX4_leastBelow_fieldLink_18_StillText_Setter_strip_LStillText_Strip rfl rfl dX4_leastBelow_64 ?_
      refine lv_iload_n hx hb dX4_leastBelow_67 rfl (lv_at hl 3 rfl) ?_
      refine lv_iload hx hb dX4_leastBelow_68 (lv_at hl 9 rfl) ?_
      refine k_cVi (As := [.int x3, .int x9]) (rest := [.int x2]) C (c_X6_body σ x3 x9 _ h) (cwV 2 hts gX4_leastBelow_X6_body rfl rfl rfl hdX6_body ⟨Nat.le_of_ble_eq_true rfl, Nat.le_of_ble_eq_true rfl⟩) hI 15 rfl rfl rfl hl.1 rfl (Nat.le_of_ble_eq_true rfl) dX4_leastBelow_70 ⟨Nat.le_of_ble_eq_true rfl, Nat.le_of_ble_eq_true rfl⟩ (fun r9 σ10 H locs h hI => ?_)
      refine k_min C hl.1 mX4_leastBelow_methodLink_78_Lib_Math_min_name mX4_leastBelow_static_Lib_Math_min_name mX4_leastBelow_initialized_java_lang_Math mX4_leastBelow_code_Lib_Math_min_name_Lib_Math_min_code_2_some_int (Nat.le_of_ble_eq_true rfl) (Nat.le_of_ble_eq_true rfl) (Nat.le_of_ble_eq_true rfl) (Nat.le_of_ble_eq_true rfl) dX4_leastBelow_73 ?_
      refine lv_istore (lv' := [(10, .int (if r9 < x2 then r9 else x2)), (0, .ref (ad 23)), (1, .int x1), (2, .int x2), (3, .int x3), (4, .int x4), (5, .int x5), (6, .int x6), (7, .int x7), (8, .int x8), (9, .int x9)]) hx hb dX4_leastBelow_76 hl (by decide) rfl (fun ls hl => ?_)
      refine lv_iload hx hb dX4_leastBelow_78 (lv_at hl 9 rfl) ?_
      refine lv_aload_n hx hb dX4_leastBelow_80 rfl (lv_at hl 1 rfl) ?_
      refine k_get (q0 := 23) (k := 0) (ci := 4) (v := .ref (ad 15)) hx hb hts inX4_leastBelow_X4 hown hI rfl rfl (by decide) mX4_leastBelow_fieldLink_18_StillText_Setter_strip_LStillText_Strip rfl rfl dX4_leastBelow_81 ?_
      refine lv_iload hx hb dX4_leastBelow_84 (lv_at hl 6 rfl) ?_
      refine lv_iload hx hb dX4_leastBelow_86 (lv_at hl 7 rfl) ?_
      refine lv_iload hx hb dX4_leastBelow_88 (lv_at hl 8 rfl) ?_
      refine lv_iload hx hb dX4_leastBelow_90 (lv_at hl 0 rfl) ?_
      refine lv_aload_n hx hb dX4_leastBelow_92 rfl (lv_at hl 1 rfl) ?_
      refine k_get (q0 := 23) (k := 1) (ci := 4) (v := .ref (ad 12)) hx hb hts inX4_leastBelow_X4 hown hI rfl rfl (by decide) mX4_leastBelow_fieldLink_22_StillText_Setter_measures_LStillText_Measures rfl rfl dX4_leastBelow_93 ?_
      refine k_cVi (As := [.int x5, .int x6, .int x7, .int (if r9 < x2 then r9 else x2), .ref (ad 12)]) (rest := [.int x8]) C (c_X6_strainOfPlaces_12 σ10 x5 x6 x7 (if r9 < x2 then r9 else x2) _ h) (cwV 5 hts gX4_leastBelow_X6_strainOfPlaces rfl rfl rfl hdX6_strainOfPlaces ⟨Nat.le_of_ble_eq_true rfl, Nat.le_of_ble_eq_true rfl⟩) hI 15 rfl rfl rfl hl.1 rfl (Nat.le_of_ble_eq_true rfl) dX4_leastBelow_96 ⟨Nat.le_of_ble_eq_true rfl, Nat.le_of_ble_eq_true rfl⟩ (fun r11 σ12 H locs h hI => ?_)
      refine lv_iadd hx hb dX4_leastBelow_99 ?_
      refine lv_istore (lv' := [(8, .int (x8 + r11)), (10, .int (if r9 < x2 then r9 else x2)), (0, .ref (ad 23)), (1, .int x1), (2, .int x2), (3, .int x3), (4, .int x4), (5, .int x5), (6, .int x6), (7, .int x7), (9, .int x9)]) hx hb dX4_leastBelow_100 hl (by decide) rfl (fun ls hl => ?_)
      refine lv_iload hx hb dX4_leastBelow_102 (lv_at hl 1 rfl) ?_
      refine lv_istore (lv' := [(7, .int (if r9 < x2 then r9 else x2)), (8, .int (x8 + r11)), (10, .int (if r9 < x2 then r9 else x2)), (0, .ref (ad 23)), (1, .int x1), (2, .int x2), (3, .int x3), (4, .int x4), (5, .int x5), (6, .int x6), (9, .int x9)]) hx hb dX4_leastBelow_104 hl (by decide) rfl (fun ls hl => ?_)
      refine lv_iload hx hb dX4_leastBelow_106 (lv_at hl 1 rfl) ?_
      refine lv_aload_n hx hb dX4_leastBelow_108 rfl (lv_at hl 3 rfl) ?_
      refine k_get (q0 := 23) (k := 3) (ci := 4) (v := .ref (ad 25)) hx hb hts inX4_leastBelow_X4 hown hI rfl rfl (by decide) mX4_leastBelow_fieldLink_15_StillText_Setter_least_I rfl rfl dX4_leastBelow_109 ?_
      refine lv_iload_n hx hb dX4_leastBelow_112 rfl (lv_at hl 6 rfl) ?_
      refine lv_iload hx hb dX4_leastBelow_113 (lv_at hl 10 rfl) ?_
      refine k_cSi (As := [.int x3, .int x9]) (rest := [.ref (ad 25), .int (x8 + r11)]) C (c_X4_place σ12 x3 x9 _ h) (va_cwS 2 hts gX4_leastBelow_X4_place rfl rfl rfl hdX4_place ⟨Nat.le_of_ble_eq_true rfl, Nat.le_of_ble_eq_true rfl⟩) hI rfl hl.1 rfl (Nat.le_of_ble_eq_true rfl) dX4_leastBelow_115 ⟨Nat.le_of_ble_eq_true rfl, Nat.le_of_ble_eq_true rfl⟩ (fun r13 σ14 H locs h hI => ?_)
      refine k_iald (q0 := 25) (t0 := 0) (n := 4800) (f := σ14 25) hx hb hI rfl rfl h.1 dX4_leastBelow_118 ?_
      replace h := h.2
      refine lv_iadd hx hb dX4_leastBelow_119 ?_
      refine lv_istore (lv' := [(11, .int ((x8 + r11) + (σ14 25 r13.toNatClampNeg))), (7, .int (if r9 < x2 then r9 else x2)), (8, .int (x8 + r11)), (10, .int (if r9 < x2 then r9 else x2)), (0, .ref (ad 23)), (1, .int x1), (2, .int x2), (3, .int x3), (4, .int x4), (5, .int x5), (6, .int x6), (9, .int x9)]) hx hb dX4_leastBelow_120 hl (by decide) rfl (fun ls hl => ?_)
      refine lv_aload_n hx hb dX4_leastBelow_122 rfl (lv_at hl 4 rfl) ?_
      refine k_get (q0 := 23) (k := 4) (ci := 4) (v := .int (σ14 23 4)) hx hb hts inX4_leastBelow_X4 hown hI rfl rfl (by decide) mX4_leastBelow_fieldLink_47_StillText_Setter_chosen_I rfl rfl dX4_leastBelow_123 ?_
      refine lv_if_eq (tgt := 136) hx hb dX4_leastBelow_126 (by decide) (fun c15 => ?_) (fun c15 => ?_)
      · replace h := h.1 c15
        refine lv_iload hx hb dX4_leastBelow_136 (lv_at hl 0 rfl) ?_
        refine lv_istore (lv' := [(4, .int ((x8 + r11) + (σ14 25 r13.toNatClampNeg))), (11, .int ((x8 + r11) + (σ14 25 r13.toNatClampNeg))), (7, .int (if r9 < x2 then r9 else x2)), (8, .int (x8 + r11)), (10, .int (if r9 < x2 then r9 else x2)), (0, .ref (ad 23)), (1, .int x1), (2, .int x2), (3, .int x3), (5, .int x5), (6, .int x6), (9, .int x9)]) hx hb dX4_leastBelow_138 hl (by decide) rfl (fun ls hl => ?_)
        refine lv_aload_n hx hb dX4_leastBelow_140 rfl (lv_at hl 5 rfl) ?_
        refine lv_iload hx hb dX4_leastBelow_141 (lv_at hl 11 rfl) ?_
        refine k_put (q0 := 23) (k := 4) (ci := 4) (v := .int x9) (σ' := up2 σ14 23 4 x9) hx hb hts inX4_leastBelow_X4 tyX4 tyX4_ok nmX4 hown hI rfl rfl (by decide) mX4_leastBelow_fieldLink_47_StillText_Setter_chosen_I rfl rfl rfl rfl (Nat.le_of_ble_eq_true rfl) (wsC_23_4 _ _ _ _ _) dX4_leastBelow_143 (fun H locs hI => ?_)
        refine lv_iinc (v := (x9 + nI 1)) (lv' := [(9, .int (x9 + nI 1)), (4, .int ((x8 + r11) + (σ14 25 r13.toNatClampNeg))), (11, .int ((x8 + r11) + (σ14 25 r13.toNatClampNeg))), (7, .int (if r9 < x2 then r9 else x2)), (8, .int (x8 + r11)), (10, .int (if r9 < x2 then r9 else x2)), (0, .ref (ad 23)), (1, .int x1), (2, .int x2), (3, .int x3), (5, .int x5), (6, .int x6)]) hx hb dX4_leastBelow_146 hl (k := 11) rfl rfl (by decide) rfl (fun ls hl => ?_)
        refine lv_goto (tgt := 51) hx hb dX4_leastBelow_149 (by decide) ?_
        exact ih _ _ _ _ _ _ _ _ h hI (lv_sub hl [6, 7, 8, 9, 1, 10, 11, 3, 4, 0] rfl)
      · replace h := h.2 c15
        refine lv_iload hx hb dX4_leastBelow_129 (lv_at hl 0 rfl) ?_
        refine lv_iload hx hb dX4_leastBelow_131 (lv_at hl 8 rfl) ?_
        refine lv_icmp_gt (tgt := 146) hx hb dX4_leastBelow_133 (by decide) (fun c16 => ?_) (fun c16 => ?_)
        · replace h := h.1 c16
          refine lv_iinc (v := (x9 + nI 1)) (lv' := [(9, .int (x9 + nI 1)), (11, .int ((x8 + r11) + (σ14 25 r13.toNatClampNeg))), (7, .int (if r9 < x2 then r9 else x2)), (8, .int (x8 + r11)), (10, .int (if r9 < x2 then r9 else x2)), (0, .ref (ad 23)), (1, .int x1), (2, .int x2), (3, .int x3), (4, .int x4), (5, .int x5), (6, .int x6)]) hx hb dX4_leastBelow_146 hl (k := 11) rfl rfl (by decide) rfl (fun ls hl => ?_)
          refine lv_goto (tgt := 51) hx hb dX4_leastBelow_149 (by decide) ?_
          exact ih _ _ _ _ _ _ _ _ h hI (lv_sub hl [5, 6, 7, 8, 9, 10, 11, 2, 3, 0] rfl)
        · replace h := h.2 c16
          refine lv_iload hx hb dX4_leastBelow_136 (lv_at hl 0 rfl) ?_
          refine lv_istore (lv' := [(4, .int ((x8 + r11) + (σ14 25 r13.toNatClampNeg))), (11, .int ((x8 + r11) + (σ14 25 r13.toNatClampNeg))), (7, .int (if r9 < x2 then r9 else x2)), (8, .int (x8 + r11)), (10, .int (if r9 < x2 then r9 else x2)), (0, .ref (ad 23)), (1, .int x1), (2, .int x2), (3, .int x3), (5, .int x5), (6, .int x6), (9, .int x9)]) hx hb dX4_leastBelow_138 hl (by decide) rfl (fun ls hl => ?_)
          refine lv_aload_n hx hb dX4_leastBelow_140 rfl (lv_at hl 5 rfl) ?_
          refine lv_iload hx hb dX4_leastBelow_141 (lv_at hl 11 rfl) ?_
          refine k_put (q0 := 23) (k := 4) (ci := 4) (v := .int x9) (σ' := up2 σ14 23 4 x9) hx hb hts inX4_leastBelow_X4 tyX4 tyX4_ok nmX4 hown hI rfl rfl (by decide) mX4_leastBelow_fieldLink_47_StillText_Setter_chosen_I rfl rfl rfl rfl (Nat.le_of_ble_eq_true rfl) (wsC_23_4 _ _ _ _ _) dX4_leastBelow_143 (fun H locs hI => ?_)
          refine lv_iinc (v := (x9 + nI 1)) (lv' := [(9, .int (x9 + nI 1)), (4, .int ((x8 + r11) + (σ14 25 r13.toNatClampNeg))), (11, .int ((x8 + r11) + (σ14 25 r13.toNatClampNeg))), (7, .int (if r9 < x2 then r9 else x2)), (8, .int (x8 + r11)), (10, .int (if r9 < x2 then r9 else x2)), (0, .ref (ad 23)), (1, .int x1), (2, .int x2), (3, .int x3), (5, .int x5), (6, .int x6)]) hx hb dX4_leastBelow_146 hl (k := 11) rfl rfl (by decide) rfl (fun ls hl => ?_)
          refine lv_goto (tgt := 51) hx hb dX4_leastBelow_149 (by decide) ?_
          exact ih _ _ _ _ _ _ _ _ h hI (lv_sub hl [6, 7, 8, 9, 1, 10, 11, 3, 4, 0] rfl)
set_option maxHeartbeats 4000000 in
set_option maxRecDepth 100000 in
theorem c_X4_leastBelow (σ : St) (x1 x2 x3 : Int32) (Q : Int32 → St → Prop) (h : wp_X4_leastBelow σ x1 x2 x3 Q) : Ci l D (tyE cyI cyZ) NwC (ZsC tL tS) (wC cyI cyZ ad) yX4_leastBelow wsX4_leastBelow r_X4_leastBelow [.ref (ad 23), .int x1, .int x2, .int x3] σ Q := by
  refine k_metI (cc := cX4_leastBelow) (maxL := 12) (ret := (some .int)) (by decide) rfl (Nat.le_of_ble_eq_true rfl) ?_
  intro p e s m below meth c A ls C hI hl
  obtain ⟨hx, hb, hr, hml, hown, hts, hlocks⟩ := id C
  have hl : lv_has ls 12 [(0, .ref (ad 23)), (1, .int x1), (2, .int x2), (3, .int x3)] := hl
  unfold wp_X4_leastBelow at h
  refine lv_aload_n hx hb dX4_leastBelow_0 rfl (lv_at hl 0 rfl) ?_
  refine lv_iconst (v := nI 0) hx hb dX4_leastBelow_1 (by decide) ?_
  refine k_put (q0 := 23) (k := 4) (ci := 4) (v := .int (nI 0)) (σ' := up2 σ 23 4 (nI 0)) hx hb hts inX4_leastBelow_X4 tyX4 tyX4_ok nmX4 hown hI rfl rfl (by decide) mX4_leastBelow_fieldLink_47_StillText_Setter_chosen_I rfl rfl rfl rfl (Nat.le_of_ble_eq_true rfl) (wsC_23_4 _ _ _ _ _) dX4_leastBelow_2 (fun H locs hI => ?_)
  refine lv_iconst (v := nI 0) hx hb dX4_leastBelow_5 (by decide) ?_
  refine lv_istore (lv' := [(4, .int (nI 0)), (0, .ref (ad 23)), (1, .int x1), (2, .int x2), (3, .int x3)]) hx hb dX4_leastBelow_6 hl (by decide) rfl (fun ls hl => ?_)
  refine lv_iload_n hx hb dX4_leastBelow_8 rfl (lv_at hl 4 rfl) ?_
  refine lv_aload_n hx hb dX4_leastBelow_9 rfl (lv_at hl 1 rfl) ?_
  refine k_get (q0 := 23) (k := 0) (ci := 4) (v := .ref (ad 15)) hx hb hts inX4_leastBelow_X4 hown hI rfl rfl (by decide) mX4_leastBelow_fieldLink_18_StillText_Setter_strip_LStillText_Strip rfl rfl dX4_leastBelow_10 ?_
  refine k_cVi (As := []) (rest := [.int x3]) C (c_X6_units (up2 σ 23 4 (nI 0))  _ h) (cwV 0 hts gX4_leastBelow_X6_units rfl rfl rfl hdX6_units ⟨Nat.le_of_ble_eq_true rfl, Nat.le_of_ble_eq_true rfl⟩) hI 15 rfl rfl rfl hl.1 rfl (Nat.le_of_ble_eq_true rfl) dX4_leastBelow_13 ⟨Nat.le_of_ble_eq_true rfl, Nat.le_of_ble_eq_true rfl⟩ (fun r1 σ2 H locs h hI => ?_)
  refine lv_icmp_lt (tgt := 22) hx hb dX4_leastBelow_16 (by decide) (fun c3 => ?_) (fun c3 => ?_)
  · replace h := h.1 c3
    refine lv_aload_n hx hb dX4_leastBelow_22 rfl (lv_at hl 1 rfl) ?_
    refine k_get (q0 := 23) (k := 0) (ci := 4) (v := .ref (ad 15)) hx hb hts inX4_leastBelow_X4 hown hI rfl rfl (by decide) mX4_leastBelow_fieldLink_18_StillText_Setter_strip_LStillText_Strip rfl rfl dX4_leastBelow_23 ?_
    refine lv_iload_n hx hb dX4_leastBelow_26 rfl (lv_at hl 2 rfl) ?_
    refine k_cVi (As := [.int x1]) (rest := []) C (c_X6_beginOf σ2 x1 _ h) (cwV 1 hts gX4_leastBelow_X6_beginOf rfl rfl rfl hdX6_beginOf ⟨Nat.le_of_ble_eq_true rfl, Nat.le_of_ble_eq_true rfl⟩) hI 15 rfl rfl rfl hl.1 rfl (Nat.le_of_ble_eq_true rfl) dX4_leastBelow_27 ⟨Nat.le_of_ble_eq_true rfl, Nat.le_of_ble_eq_true rfl⟩ (fun r4 σ5 H locs h hI => ?_)
    refine lv_istore (lv' := [(5, .int r4), (4, .int (nI 0)), (0, .ref (ad 23)), (1, .int x1), (2, .int x2), (3, .int x3)]) hx hb dX4_leastBelow_30 hl (by decide) rfl (fun ls hl => ?_)
    refine lv_aload_n hx hb dX4_leastBelow_32 rfl (lv_at hl 2 rfl) ?_
    refine k_get (q0 := 23) (k := 0) (ci := 4) (v := .ref (ad 15)) hx hb hts inX4_leastBelow_X4 hown hI rfl rfl (by decide) mX4_leastBelow_fieldLink_18_StillText_Setter_strip_LStillText_Strip rfl rfl dX4_leastBelow_33 ?_
    refine lv_iload_n hx hb dX4_leastBelow_36 rfl (lv_at hl 5 rfl) ?_
    refine k_cVi (As := [.int x3]) (rest := []) C (c_X6_beginOf σ5 x3 _ h) (cwV 1 hts gX4_leastBelow_X6_beginOf rfl rfl rfl hdX6_beginOf ⟨Nat.le_of_ble_eq_true rfl, Nat.le_of_ble_eq_true rfl⟩) hI 15 rfl rfl rfl hl.1 rfl (Nat.le_of_ble_eq_true rfl) dX4_leastBelow_37 ⟨Nat.le_of_ble_eq_true rfl, Nat.le_of_ble_eq_true rfl⟩ (fun r6 σ7 H locs h hI => ?_)
    refine lv_istore (lv' := [(6, .int r6), (5, .int r4), (4, .int (nI 0)), (0, .ref (ad 23)), (1, .int x1), (2, .int x2), (3, .int x3)]) hx hb dX4_leastBelow_40 hl (by decide) rfl (fun ls hl => ?_)
    refine lv_iconst (v := nI 0) hx hb dX4_leastBelow_42 (by decide) ?_
    refine lv_istore (lv' := [(7, .int (nI 0)), (6, .int r6), (5, .int r4), (4, .int (nI 0)), (0, .ref (ad 23)), (1, .int x1), (2, .int x2), (3, .int x3)]) hx hb dX4_leastBelow_43 hl (by decide) rfl (fun ls hl => ?_)
    refine lv_iconst (v := nI 0) hx hb dX4_leastBelow_45 (by decide) ?_
    refine lv_istore (lv' := [(8, .int (nI 0)), (7, .int (nI 0)), (6, .int r6), (5, .int r4), (4, .int (nI 0)), (0, .ref (ad 23)), (1, .int x1), (2, .int x2), (3, .int x3)]) hx hb dX4_leastBelow_46 hl (by decide) rfl (fun ls hl => ?_)
    refine lv_iconst (v := nI 1) hx hb dX4_leastBelow_48 (by decide) ?_
    refine lv_istore (lv' := [(9, .int (nI 1)), (8, .int (nI 0)), (7, .int (nI 0)), (6, .int r6), (5, .int r4), (4, .int (nI 0)), (0, .ref (ad 23)), (1, .int x1), (2, .int x2), (3, .int x3)]) hx hb dX4_leastBelow_49 hl (by decide) rfl (fun ls hl => ?_)
    obtain ⟨k17, h⟩ := h
    exact t_X4_leastBelow_51 C  k17 _ _ _ _ _ _ _ _ h hI (lv_sub hl [6, 7, 8, 9, 5, 4, 3, 2, 1, 0] rfl)
  · replace h := h.2 c3
    refine lv_iload hx hb dX4_leastBelow_19 (lv_at hl 0 rfl) ?_
    exact k_iret hx hb hr hlocks hI h dX4_leastBelow_21
theorem inX4_weigh_X4 : ∀ w ∈ wsX40, w ∈ wsX4_weigh := fun _ h => List.mem_cons_of_mem _ (List.mem_append_left _ (List.mem_append_left _ (List.mem_append_right _ (h))))
theorem mX4_weigh_fieldLink_18_StillText_Setter_strip_LStillText_Strip : Cond.fieldLink RX4 18 "StillText$Setter" "strip" "LStillText$Strip;" ∈ wsX4_weigh := List.mem_cons_of_mem _ (List.mem_append_left _ (List.mem_append_left _ (List.mem_append_left _ (List.mem_append_left _ (List.mem_of_getElem? (i := 0) rfl)))))
theorem mX4_weigh_fieldLink_22_StillText_Setter_measures_LStillText_Measures : Cond.fieldLink RX4 22 "StillText$Setter" "measures" "LStillText$Measures;" ∈ wsX4_weigh := List.mem_cons_of_mem _ (List.mem_append_left _ (List.mem_append_left _ (List.mem_append_left _ (List.mem_append_left _ (List.mem_of_getElem? (i := 1) rfl)))))
set_option maxHeartbeats 4000000 in
set_option maxRecDepth 100000 in
theorem c_X4_weigh (σ : St) (x1 x2 : Int32) (Q : Int32 → St → Prop) (h : wp_X4_weigh σ x1 x2 Q) : Ci l D (tyE cyI cyZ) NwC (ZsC tL tS) (wC cyI cyZ ad) yX4_weigh wsX4_weigh r_X4_weigh [.ref (ad 23), .int x1, .int x2] σ Q := by
  refine k_metI (cc := cX4_weigh) (maxL := 4) (ret := (some .int)) (by decide) rfl (Nat.le_of_ble_eq_true rfl) ?_
  intro p e s m below meth c A ls C hI hl
  obtain ⟨hx, hb, hr, hml, hown, hts, hlocks⟩ := id C
  have hl : lv_has ls 4 [(0, .ref (ad 23)), (1, .int x1), (2, .int x2)] := hl
  unfold wp_X4_weigh at h
  refine lv_iload_n hx hb dX4_weigh_0 rfl (lv_at hl 1 rfl) ?_
  refine lv_iload_n hx hb dX4_weigh_1 rfl (lv_at hl 2 rfl) ?_
  refine lv_iadd hx hb dX4_weigh_2 ?_
  refine lv_istore_n (lv' := [(3, .int (x1 + x2)), (0, .ref (ad 23)), (1, .int x1), (2, .int x2)]) hx hb dX4_weigh_3 rfl hl (by decide) rfl (fun ls hl => ?_)
  refine lv_iload_n hx hb dX4_weigh_4 rfl (lv_at hl 0 rfl) ?_
  refine lv_aload_n hx hb dX4_weigh_5 rfl (lv_at hl 1 rfl) ?_
  refine k_get (q0 := 23) (k := 0) (ci := 4) (v := .ref (ad 15)) hx hb hts inX4_weigh_X4 hown hI rfl rfl (by decide) mX4_weigh_fieldLink_18_StillText_Setter_strip_LStillText_Strip rfl rfl dX4_weigh_6 ?_
  refine k_cVi (As := []) (rest := [.int (x1 + x2)]) C (c_X6_units σ  _ h) (cwV 0 hts gX4_weigh_X6_units rfl rfl rfl hdX6_units ⟨Nat.le_of_ble_eq_true rfl, Nat.le_of_ble_eq_true rfl⟩) hI 15 rfl rfl rfl hl.1 rfl (Nat.le_of_ble_eq_true rfl) dX4_weigh_9 ⟨Nat.le_of_ble_eq_true rfl, Nat.le_of_ble_eq_true rfl⟩ (fun r1 σ2 H locs h hI => ?_)
  refine lv_icmp_lt (tgt := 17) hx hb dX4_weigh_12 (by decide) (fun c3 => ?_) (fun c3 => ?_)
  · replace h := h.1 c3
    refine lv_aload_n hx hb dX4_weigh_17 rfl (lv_at hl 1 rfl) ?_
    refine k_get (q0 := 23) (k := 1) (ci := 4) (v := .ref (ad 12)) hx hb hts inX4_weigh_X4 hown hI rfl rfl (by decide) mX4_weigh_fieldLink_22_StillText_Setter_measures_LStillText_Measures rfl rfl dX4_weigh_18 ?_
    refine lv_aload_n hx hb dX4_weigh_21 rfl (lv_at hl 1 rfl) ?_
    refine k_get (q0 := 23) (k := 0) (ci := 4) (v := .ref (ad 15)) hx hb hts inX4_weigh_X4 hown hI rfl rfl (by decide) mX4_weigh_fieldLink_18_StillText_Setter_strip_LStillText_Strip rfl rfl dX4_weigh_22 ?_
    refine lv_iload_n hx hb dX4_weigh_25 rfl (lv_at hl 2 rfl) ?_
    refine lv_iload_n hx hb dX4_weigh_26 rfl (lv_at hl 3 rfl) ?_
    refine k_cVi (As := [.int x1, .int x2]) (rest := [.ref (ad 12)]) C (c_X6_signsOf σ2 x1 x2 _ h) (cwV 2 hts gX4_weigh_X6_signsOf rfl rfl rfl hdX6_signsOf ⟨Nat.le_of_ble_eq_true rfl, Nat.le_of_ble_eq_true rfl⟩) hI 15 rfl rfl rfl hl.1 rfl (Nat.le_of_ble_eq_true rfl) dX4_weigh_27 ⟨Nat.le_of_ble_eq_true rfl, Nat.le_of_ble_eq_true rfl⟩ (fun r4 σ5 H locs h hI => ?_)
    refine lv_aload_n hx hb dX4_weigh_30 rfl (lv_at hl 1 rfl) ?_
    refine k_get (q0 := 23) (k := 0) (ci := 4) (v := .ref (ad 15)) hx hb hts inX4_weigh_X4 hown hI rfl rfl (by decide) mX4_weigh_fieldLink_18_StillText_Setter_strip_LStillText_Strip rfl rfl dX4_weigh_31 ?_
    refine lv_iload_n hx hb dX4_weigh_34 rfl (lv_at hl 2 rfl) ?_
    refine lv_iload_n hx hb dX4_weigh_35 rfl (lv_at hl 3 rfl) ?_
    refine k_cVi (As := [.int x1, .int x2]) (rest := [.int r4, .ref (ad 12)]) C (c_X6_behindLine σ5 x1 x2 _ h) (cwV 2 hts gX4_weigh_X6_behindLine rfl rfl rfl hdX6_behindLine ⟨Nat.le_of_ble_eq_true rfl, Nat.le_of_ble_eq_true rfl⟩) hI 15 rfl rfl rfl hl.1 rfl (Nat.le_of_ble_eq_true rfl) dX4_weigh_36 ⟨Nat.le_of_ble_eq_true rfl, Nat.le_of_ble_eq_true rfl⟩ (fun r6 σ7 H locs h hI => ?_)
    refine k_cVi (As := [.int r4, .int r6]) (rest := []) C (c_X1_strainOfLine σ7 r4 r6 _ h) (cwV 2 hts gX4_weigh_X1_strainOfLine rfl rfl rfl hdX1_strainOfLine ⟨Nat.le_of_ble_eq_true rfl, Nat.le_of_ble_eq_true rfl⟩) hI 12 rfl rfl rfl hl.1 rfl (Nat.le_of_ble_eq_true rfl) dX4_weigh_39 ⟨Nat.le_of_ble_eq_true rfl, Nat.le_of_ble_eq_true rfl⟩ (fun r8 σ9 H locs h hI => ?_)
    refine lv_aload_n hx hb dX4_weigh_42 rfl (lv_at hl 1 rfl) ?_
    refine lv_iload_n hx hb dX4_weigh_43 rfl (lv_at hl 2 rfl) ?_
    refine lv_aload_n hx hb dX4_weigh_44 rfl (lv_at hl 1 rfl) ?_
    refine k_get (q0 := 23) (k := 0) (ci := 4) (v := .ref (ad 15)) hx hb hts inX4_weigh_X4 hown hI rfl rfl (by decide) mX4_weigh_fieldLink_18_StillText_Setter_strip_LStillText_Strip rfl rfl dX4_weigh_45 ?_
    refine lv_iload_n hx hb dX4_weigh_48 rfl (lv_at hl 2 rfl) ?_
    refine lv_iload_n hx hb dX4_weigh_49 rfl (lv_at hl 3 rfl) ?_
    refine k_cVi (As := [.int x1, .int x2]) (rest := [.int x1, .ref (ad 23), .int r8]) C (c_X6_body σ9 x1 x2 _ h) (cwV 2 hts gX4_weigh_X6_body rfl rfl rfl hdX6_body ⟨Nat.le_of_ble_eq_true rfl, Nat.le_of_ble_eq_true rfl⟩) hI 15 rfl rfl rfl hl.1 rfl (Nat.le_of_ble_eq_true rfl) dX4_weigh_50 ⟨Nat.le_of_ble_eq_true rfl, Nat.le_of_ble_eq_true rfl⟩ (fun r10 σ11 H locs h hI => ?_)
    refine lv_iload_n hx hb dX4_weigh_53 rfl (lv_at hl 0 rfl) ?_
    refine k_cVi (As := [.int x1, .int r10, .int (x1 + x2)]) (rest := [.int r8]) C (c_X4_leastBelow σ11 x1 r10 (x1 + x2) _ h) (cwV 3 hts gX4_weigh_X4_leastBelow rfl rfl rfl hdX4_leastBelow ⟨Nat.le_of_ble_eq_true rfl, Nat.le_of_ble_eq_true rfl⟩) hI 23 rfl rfl rfl hl.1 rfl (Nat.le_of_ble_eq_true rfl) dX4_weigh_54 ⟨Nat.le_of_ble_eq_true rfl, Nat.le_of_ble_eq_true rfl⟩ (fun r12 σ13 H locs h hI => ?_)
    refine lv_iadd hx hb dX4_weigh_57 ?_
    exact k_iret hx hb hr hlocks hI h dX4_weigh_58
  · replace h := h.2 c3
    refine lv_iconst (v := nI 0) hx hb dX4_weigh_15 (by decide) ?_
    exact k_iret hx hb hr hlocks hI h dX4_weigh_16
theorem inX4_weighLines_X4 : ∀ w ∈ wsX40, w ∈ wsX4_weighLines := fun _ h => List.mem_cons_of_mem _ (List.mem_append_left _ (List.mem_append_left _ (List.mem_append_right _ (h))))
theorem mX4_weighLines_fieldLink_18_StillText_Setter_strip_LStillText_Strip : Cond.fieldLink RX4 18 "StillText$Setter" "strip" "LStillText$Strip;" ∈ wsX4_weighLines := List.mem_cons_of_mem _ (List.mem_append_left _ (List.mem_append_left _ (List.mem_append_left _ (List.mem_append_left _ (List.mem_of_getElem? (i := 0) rfl)))))
theorem mX4_weighLines_fieldLink_9_StillText_Setter_most_I : Cond.fieldLink RX4 9 "StillText$Setter" "most" "[I" ∈ wsX4_weighLines := List.mem_cons_of_mem _ (List.mem_append_left _ (List.mem_append_left _ (List.mem_append_left _ (List.mem_append_left _ (List.mem_of_getElem? (i := 2) rfl)))))
theorem mX4_weighLines_fieldLink_15_StillText_Setter_least_I : Cond.fieldLink RX4 15 "StillText$Setter" "least" "[I" ∈ wsX4_weighLines := List.mem_cons_of_mem _ (List.mem_append_left _ (List.mem_append_left _ (List.mem_append_left _ (List.mem_append_left _ (List.mem_of_getElem? (i := 1) rfl)))))
set_option maxHeartbeats 4000000 in
set_option maxRecDepth 100000 in
theorem t_X4_weighLines_16 {p : Program} {e : Env} {s : State} {m : MethodId} {args : Array Value} {below : List Frame} {meth : Method} {c : Code} {A : Nat → Prop} {x1 : Int32} {K10 : St → Int32 → Prop} {Q : St → Prop} (C : Cx p s m args meth c cX4_weighLines 3 none RX4 wsX4_weighLines) (hK10 : ∀ (σ : St) (x1 : Int32) (H : Heap) (locs : List Loc) (ls : Array Slot), K10 σ x1 → Iw D (tyE cyI cyZ) NwC (ZsC tL tS) (wC cyI cyZ ad) A s H locs σ → lv_has ls 3 [(0, .ref (ad 23)), (1, .int x1)] → W p l e r_X4_weighLines s m args below meth c H locs 0 0 (MQ below (va_Qv Q (Kq D (tyE cyI cyZ) (wC cyI cyZ ad) A) A) args s 0 0 A) (F0 m 10 ls [])) :
    ∀ (n : Nat) (σ : St) (x2 : Int32) (H : Heap) (locs : List Loc) (ls : Array Slot), wpl_X4_weighLines_16 x1 K10 Q n σ x2 → Iw D (tyE cyI cyZ) NwC (ZsC tL tS) (wC cyI cyZ ad) A s H locs σ → lv_has ls 3 [(0, .ref (ad 23)), (1, .int x1), (2, .int x2)] → W p l e r_X4_weighLines s m args below meth c H locs 0 0 (MQ below (va_Qv Q (Kq D (tyE cyI cyZ) (wC cyI cyZ ad) A) A) args s 0 0 A) (F0 m 16 ls []) := by
  obtain ⟨hx, hb, hr, hml, hown, hts, hlocks⟩ := id C
  intro n
  induction n with
  | zero =>
    intro _ _ _ _ _ h
    exact h.elim
  | succ n ih =>
    intro σ x2 H locs ls h hI hl
    unfold wpl_X4_weighLines_16 at h
    refine lv_iload_n hx hb dX4_weighLines_16 rfl (lv_at hl 2 rfl) ?_
    refine lv_bipush (v := nI 60) hx hb dX4_weighLines_17 (by decide) ?_
    refine lv_icmp_ge (tgt := 55) hx hb dX4_weighLines_19 (by decide) (fun c4 => ?_) (fun c4 => ?_)
    · replace h := h.1 c4
      refine lv_aload_n hx hb dX4_weighLines_55 rfl (lv_at hl 0 rfl) ?_
      refine k_get (q0 := 23) (k := 2) (ci := 4) (v := .ref (ad 24)) hx hb hts inX4_weighLines_X4 hown hI rfl rfl (by decide) mX4_weighLines_fieldLink_9_StillText_Setter_most_I rfl rfl dX4_weighLines_56 ?_
      refine lv_iload_n hx hb dX4_weighLines_59 rfl (lv_at hl 1 rfl) ?_
      refine lv_iload_n hx hb dX4_weighLines_60 rfl (lv_at hl 2 rfl) ?_
      refine k_iast (q0 := 24) (t0 := 0) (n := 80) (σ' := up2 σ 24 x1.toNatClampNeg x2) hx hb hI rfl rfl h.1 (wsC_24 _ _ _ _ _ _) dX4_weighLines_61 (fun H locs hI => ?_)
      replace h := h.2
      refine lv_iinc (v := (x1 - nI 1)) (lv' := [(1, .int (x1 - nI 1)), (0, .ref (ad 23)), (2, .int x2)]) hx hb dX4_weighLines_62 hl (k := 1) rfl (k_dec1 _) (by decide) rfl (fun ls hl => ?_)
      refine lv_goto (tgt := 10) hx hb dX4_weighLines_65 (by decide) ?_
      exact hK10 _ _ _ _ _ h hI (lv_sub hl [1, 0] rfl)
    · replace h := h.2 c4
      refine lv_aload_n hx hb dX4_weighLines_22 rfl (lv_at hl 0 rfl) ?_
      refine lv_iload_n hx hb dX4_weighLines_23 rfl (lv_at hl 1 rfl) ?_
      refine lv_iload_n hx hb dX4_weighLines_24 rfl (lv_at hl 2 rfl) ?_
      refine lv_iconst (v := nI 1) hx hb dX4_weighLines_25 (by decide) ?_
      refine lv_iadd hx hb dX4_weighLines_26 ?_
      refine k_cVi (As := [.int x1, .int (x2 + (nI 1))]) (rest := []) C (c_X4_fits σ x1 (x2 + (nI 1)) _ h) (cwV 2 hts gX4_weighLines_X4_fits rfl rfl rfl hdX4_fits ⟨Nat.le_of_ble_eq_true rfl, Nat.le_of_ble_eq_true rfl⟩) hI 23 rfl rfl rfl hl.1 rfl (Nat.le_of_ble_eq_true rfl) dX4_weighLines_27 ⟨Nat.le_of_ble_eq_true rfl, Nat.le_of_ble_eq_true rfl⟩ (fun r5 σ6 H locs h hI => ?_)
      refine lv_if_eq (tgt := 55) hx hb dX4_weighLines_30 (by decide) (fun c7 => ?_) (fun c7 => ?_)
      · replace h := h.1 c7
        refine lv_aload_n hx hb dX4_weighLines_55 rfl (lv_at hl 0 rfl) ?_
        refine k_get (q0 := 23) (k := 2) (ci := 4) (v := .ref (ad 24)) hx hb hts inX4_weighLines_X4 hown hI rfl rfl (by decide) mX4_weighLines_fieldLink_9_StillText_Setter_most_I rfl rfl dX4_weighLines_56 ?_
        refine lv_iload_n hx hb dX4_weighLines_59 rfl (lv_at hl 1 rfl) ?_
        refine lv_iload_n hx hb dX4_weighLines_60 rfl (lv_at hl 2 rfl) ?_
        refine k_iast (q0 := 24) (t0 := 0) (n := 80) (σ' := up2 σ6 24 x1.toNatClampNeg x2) hx hb hI rfl rfl h.1 (wsC_24 _ _ _ _ _ _) dX4_weighLines_61 (fun H locs hI => ?_)
        replace h := h.2
        refine lv_iinc (v := (x1 - nI 1)) (lv' := [(1, .int (x1 - nI 1)), (0, .ref (ad 23)), (2, .int x2)]) hx hb dX4_weighLines_62 hl (k := 1) rfl (k_dec1 _) (by decide) rfl (fun ls hl => ?_)
        refine lv_goto (tgt := 10) hx hb dX4_weighLines_65 (by decide) ?_
        exact hK10 _ _ _ _ _ h hI (lv_sub hl [1, 0] rfl)
      · replace h := h.2 c7
        refine lv_iinc (v := (x2 + nI 1)) (lv' := [(2, .int (x2 + nI 1)), (0, .ref (ad 23)), (1, .int x1)]) hx hb dX4_weighLines_33 hl (k := 2) rfl rfl (by decide) rfl (fun ls hl => ?_)
        refine lv_aload_n hx hb dX4_weighLines_36 rfl (lv_at hl 1 rfl) ?_
        refine k_get (q0 := 23) (k := 3) (ci := 4) (v := .ref (ad 25)) hx hb hts inX4_weighLines_X4 hown hI rfl rfl (by decide) mX4_weighLines_fieldLink_15_StillText_Setter_least_I rfl rfl dX4_weighLines_37 ?_
        refine lv_iload_n hx hb dX4_weighLines_40 rfl (lv_at hl 2 rfl) ?_
        refine lv_iload_n hx hb dX4_weighLines_41 rfl (lv_at hl 0 rfl) ?_
        refine k_cSi (As := [.int x1, .int (x2 + nI 1)]) (rest := [.ref (ad 25)]) C (c_X4_place σ6 x1 (x2 + nI 1) _ h) (va_cwS 2 hts gX4_weighLines_X4_place rfl rfl rfl hdX4_place ⟨Nat.le_of_ble_eq_true rfl, Nat.le_of_ble_eq_true rfl⟩) hI rfl hl.1 rfl (Nat.le_of_ble_eq_true rfl) dX4_weighLines_42 ⟨Nat.le_of_ble_eq_true rfl, Nat.le_of_ble_eq_true rfl⟩ (fun r8 σ9 H locs h hI => ?_)
        refine lv_aload_n hx hb dX4_weighLines_45 rfl (lv_at hl 1 rfl) ?_
        refine lv_iload_n hx hb dX4_weighLines_46 rfl (lv_at hl 2 rfl) ?_
        refine lv_iload_n hx hb dX4_weighLines_47 rfl (lv_at hl 0 rfl) ?_
        refine k_cVi (As := [.int x1, .int (x2 + nI 1)]) (rest := [.int r8, .ref (ad 25)]) C (c_X4_weigh σ9 x1 (x2 + nI 1) _ h) (cwV 2 hts gX4_weighLines_X4_weigh rfl rfl rfl hdX4_weigh ⟨Nat.le_of_ble_eq_true rfl, Nat.le_of_ble_eq_true rfl⟩) hI 23 rfl rfl rfl hl.1 rfl (Nat.le_of_ble_eq_true rfl) dX4_weighLines_48 ⟨Nat.le_of_ble_eq_true rfl, Nat.le_of_ble_eq_true rfl⟩ (fun r10 σ11 H locs h hI => ?_)
        refine k_iast (q0 := 25) (t0 := 0) (n := 4800) (σ' := up2 σ11 25 r8.toNatClampNeg r10) hx hb hI rfl rfl h.1 (wsC_25 _ _ _ _ _ _) dX4_weighLines_51 (fun H locs hI => ?_)
        replace h := h.2
        refine lv_goto (tgt := 16) hx hb dX4_weighLines_52 (by decide) ?_
        exact ih _ _ _ _ _ h hI (lv_sub hl [1, 2, 0] rfl)
set_option maxHeartbeats 4000000 in
set_option maxRecDepth 100000 in
theorem t_X4_weighLines_10 {p : Program} {e : Env} {s : State} {m : MethodId} {args : Array Value} {below : List Frame} {meth : Method} {c : Code} {A : Nat → Prop}  {Q : St → Prop} (C : Cx p s m args meth c cX4_weighLines 3 none RX4 wsX4_weighLines) :
    ∀ (n : Nat) (σ : St) (x1 : Int32) (H : Heap) (locs : List Loc) (ls : Array Slot), wpl_X4_weighLines_10 Q n σ x1 → Iw D (tyE cyI cyZ) NwC (ZsC tL tS) (wC cyI cyZ ad) A s H locs σ → lv_has ls 3 [(0, .ref (ad 23)), (1, .int x1)] → W p l e r_X4_weighLines s m args below meth c H locs 0 0 (MQ below (va_Qv Q (Kq D (tyE cyI cyZ) (wC cyI cyZ ad) A) A) args s 0 0 A) (F0 m 10 ls []) := by
  obtain ⟨hx, hb, hr, hml, hown, hts, hlocks⟩ := id C
  intro n
  induction n with
  | zero =>
    intro _ _ _ _ _ h
    exact h.elim
  | succ n ih =>
    intro σ x1 H locs ls h hI hl
    unfold wpl_X4_weighLines_10 at h
    refine lv_iload_n hx hb dX4_weighLines_10 rfl (lv_at hl 1 rfl) ?_
    refine lv_if_lt (tgt := 68) hx hb dX4_weighLines_11 (by decide) (fun c3 => ?_) (fun c3 => ?_)
    · replace h := h.1 c3
      exact k_vret hx hb hr hlocks hI h dX4_weighLines_68
    · replace h := h.2 c3
      refine lv_iconst (v := nI 0) hx hb dX4_weighLines_14 (by decide) ?_
      refine lv_istore_n (lv' := [(2, .int (nI 0)), (0, .ref (ad 23)), (1, .int x1)]) hx hb dX4_weighLines_15 rfl hl (by decide) rfl (fun ls hl => ?_)
      obtain ⟨k12, h⟩ := h
      exact t_X4_weighLines_16 C ih k12 _ _ _ _ _ h hI (lv_sub hl [1, 2, 0] rfl)
set_option maxHeartbeats 4000000 in
set_option maxRecDepth 100000 in
theorem c_X4_weighLines (σ : St) (Q : St → Prop) (h : wp_X4_weighLines σ  Q) : Cv l D (tyE cyI cyZ) NwC (ZsC tL tS) (wC cyI cyZ ad) yX4_weighLines wsX4_weighLines r_X4_weighLines [.ref (ad 23)] σ Q := by
  refine k_metV (cc := cX4_weighLines) (maxL := 3) (ret := none) (by decide) rfl (Nat.le_of_ble_eq_true rfl) ?_
  intro p e s m below meth c A ls C hI hl
  obtain ⟨hx, hb, hr, hml, hown, hts, hlocks⟩ := id C
  have hl : lv_has ls 3 [(0, .ref (ad 23))] := hl
  unfold wp_X4_weighLines at h
  refine lv_aload_n hx hb dX4_weighLines_0 rfl (lv_at hl 0 rfl) ?_
  refine k_get (q0 := 23) (k := 0) (ci := 4) (v := .ref (ad 15)) hx hb hts inX4_weighLines_X4 hown hI rfl rfl (by decide) mX4_weighLines_fieldLink_18_StillText_Setter_strip_LStillText_Strip rfl rfl dX4_weighLines_1 ?_
  refine k_cVi (As := []) (rest := []) C (c_X6_units σ  _ h) (cwV 0 hts gX4_weighLines_X6_units rfl rfl rfl hdX6_units ⟨Nat.le_of_ble_eq_true rfl, Nat.le_of_ble_eq_true rfl⟩) hI 15 rfl rfl rfl hl.1 rfl (Nat.le_of_ble_eq_true rfl) dX4_weighLines_4 ⟨Nat.le_of_ble_eq_true rfl, Nat.le_of_ble_eq_true rfl⟩ (fun r1 σ2 H locs h hI => ?_)
  refine lv_iconst (v := nI 1) hx hb dX4_weighLines_7 (by decide) ?_
  refine lv_isub hx hb dX4_weighLines_8 ?_
  refine lv_istore_n (lv' := [(1, .int (r1 - (nI 1))), (0, .ref (ad 23))]) hx hb dX4_weighLines_9 rfl hl (by decide) rfl (fun ls hl => ?_)
  obtain ⟨k13, h⟩ := h
  exact t_X4_weighLines_10 C  k13 _ _ _ _ _ h hI (lv_sub hl [1, 0] rfl)
theorem inX5_addLine_X5 : ∀ w ∈ wsX50, w ∈ wsX5_addLine := fun _ h => List.mem_cons_of_mem _ (List.mem_append_right _ (h))
theorem mX5_addLine_fieldLink_32_StillText_Setting_count_I : Cond.fieldLink RX5 32 "StillText$Setting" "count" "I" ∈ wsX5_addLine := List.mem_cons_of_mem _ (List.mem_append_left _ (List.mem_of_getElem? (i := 0) rfl))
theorem mX5_addLine_fieldLink_18_StillText_Setting_firsts_I : Cond.fieldLink RX5 18 "StillText$Setting" "firsts" "[I" ∈ wsX5_addLine := List.mem_cons_of_mem _ (List.mem_append_left _ (List.mem_of_getElem? (i := 1) rfl))
theorem mX5_addLine_fieldLink_22_StillText_Setting_manys_I : Cond.fieldLink RX5 22 "StillText$Setting" "manys" "[I" ∈ wsX5_addLine := List.mem_cons_of_mem _ (List.mem_append_left _ (List.mem_of_getElem? (i := 2) rfl))
set_option maxHeartbeats 4000000 in
set_option maxRecDepth 100000 in
theorem c_X5_addLine (σ : St) (x1 x2 : Int32) (Q : St → Prop) (h : wp_X5_addLine σ x1 x2 Q) : Cv l D (tyE cyI cyZ) NwC (ZsC tL tS) (wC cyI cyZ ad) yX5_addLine wsX5_addLine r_X5_addLine [.ref (ad 14), .int x1, .int x2] σ Q := by
  refine k_metV (cc := cX5_addLine) (maxL := 3) (ret := none) (by decide) rfl (Nat.le_of_ble_eq_true rfl) ?_
  intro p e s m below meth c A ls C hI hl
  obtain ⟨hx, hb, hr, hml, hown, hts, hlocks⟩ := id C
  have hl : lv_has ls 3 [(0, .ref (ad 14)), (1, .int x1), (2, .int x2)] := hl
  unfold wp_X5_addLine at h
  refine lv_aload_n hx hb dX5_addLine_0 rfl (lv_at hl 0 rfl) ?_
  refine k_get (q0 := 14) (k := 3) (ci := 5) (v := .int (σ 14 3)) hx hb hts inX5_addLine_X5 hown hI rfl rfl (by decide) mX5_addLine_fieldLink_32_StillText_Setting_count_I rfl rfl dX5_addLine_1 ?_
  refine lv_bipush (v := nI 80) hx hb dX5_addLine_4 (by decide) ?_
  refine lv_icmp_ge (tgt := 39) hx hb dX5_addLine_6 (by decide) (fun c1 => ?_) (fun c1 => ?_)
  · replace h := h.1 c1
    exact k_vret hx hb hr hlocks hI h dX5_addLine_39
  · replace h := h.2 c1
    refine lv_aload_n hx hb dX5_addLine_9 rfl (lv_at hl 0 rfl) ?_
    refine k_get (q0 := 14) (k := 1) (ci := 5) (v := .ref (ad 21)) hx hb hts inX5_addLine_X5 hown hI rfl rfl (by decide) mX5_addLine_fieldLink_18_StillText_Setting_firsts_I rfl rfl dX5_addLine_10 ?_
    refine lv_aload_n hx hb dX5_addLine_13 rfl (lv_at hl 0 rfl) ?_
    refine k_get (q0 := 14) (k := 3) (ci := 5) (v := .int (σ 14 3)) hx hb hts inX5_addLine_X5 hown hI rfl rfl (by decide) mX5_addLine_fieldLink_32_StillText_Setting_count_I rfl rfl dX5_addLine_14 ?_
    refine lv_iload_n hx hb dX5_addLine_17 rfl (lv_at hl 1 rfl) ?_
    refine k_iast (q0 := 21) (t0 := 0) (n := 80) (σ' := up2 σ 21 (σ 14 3).toNatClampNeg x1) hx hb hI rfl rfl h.1 (wsC_21 _ _ _ _ _ _) dX5_addLine_18 (fun H locs hI => ?_)
    replace h := h.2
    refine lv_aload_n hx hb dX5_addLine_19 rfl (lv_at hl 0 rfl) ?_
    refine k_get (q0 := 14) (k := 2) (ci := 5) (v := .ref (ad 22)) hx hb hts inX5_addLine_X5 hown hI rfl rfl (by decide) mX5_addLine_fieldLink_22_StillText_Setting_manys_I rfl rfl dX5_addLine_20 ?_
    refine lv_aload_n hx hb dX5_addLine_23 rfl (lv_at hl 0 rfl) ?_
    refine k_get (q0 := 14) (k := 3) (ci := 5) (v := .int (σ 14 3)) hx hb hts inX5_addLine_X5 hown hI rfl rfl (by decide) mX5_addLine_fieldLink_32_StillText_Setting_count_I rfl rfl dX5_addLine_24 ?_
    refine lv_iload_n hx hb dX5_addLine_27 rfl (lv_at hl 2 rfl) ?_
    refine k_iast (q0 := 22) (t0 := 0) (n := 80) (σ' := up2 (up2 σ 21 (σ 14 3).toNatClampNeg x1) 22 (σ 14 3).toNatClampNeg x2) hx hb hI rfl rfl h.1 (wsC_22 _ _ _ _ _ _) dX5_addLine_28 (fun H locs hI => ?_)
    replace h := h.2
    refine lv_aload_n hx hb dX5_addLine_29 rfl (lv_at hl 0 rfl) ?_
    refine lv_dup hx hb dX5_addLine_30 rfl ?_
    refine k_get (q0 := 14) (k := 3) (ci := 5) (v := .int (σ 14 3)) hx hb hts inX5_addLine_X5 hown hI rfl rfl (by decide) mX5_addLine_fieldLink_32_StillText_Setting_count_I rfl rfl dX5_addLine_31 ?_
    refine lv_iconst (v := nI 1) hx hb dX5_addLine_34 (by decide) ?_
    refine lv_iadd hx hb dX5_addLine_35 ?_
    refine k_put (q0 := 14) (k := 3) (ci := 5) (v := .int ((σ 14 3) + (nI 1))) (σ' := up2 (up2 (up2 σ 21 (σ 14 3).toNatClampNeg x1) 22 (σ 14 3).toNatClampNeg x2) 14 3 ((σ 14 3) + (nI 1))) hx hb hts inX5_addLine_X5 tyX5 tyX5_ok nmX5 hown hI rfl rfl (by decide) mX5_addLine_fieldLink_32_StillText_Setting_count_I rfl rfl rfl rfl (Nat.le_of_ble_eq_true rfl) (wsC_14_3 _ _ _ _ _) dX5_addLine_36 (fun H locs hI => ?_)
    exact k_vret hx hb hr hlocks hI h dX5_addLine_39
theorem inX4_putLines_X4 : ∀ w ∈ wsX40, w ∈ wsX4_putLines := fun _ h => List.mem_cons_of_mem _ (List.mem_append_left _ (List.mem_append_left _ (List.mem_append_left _ (List.mem_append_right _ (h)))))
theorem mX4_putLines_fieldLink_18_StillText_Setter_strip_LStillText_Strip : Cond.fieldLink RX4 18 "StillText$Setter" "strip" "LStillText$Strip;" ∈ wsX4_putLines := List.mem_cons_of_mem _ (List.mem_append_left _ (List.mem_append_left _ (List.mem_append_left _ (List.mem_append_left _ (List.mem_append_left _ (List.mem_of_getElem? (i := 0) rfl))))))
theorem mX4_putLines_fieldLink_47_StillText_Setter_chosen_I : Cond.fieldLink RX4 47 "StillText$Setter" "chosen" "I" ∈ wsX4_putLines := List.mem_cons_of_mem _ (List.mem_append_left _ (List.mem_append_left _ (List.mem_append_left _ (List.mem_append_left _ (List.mem_append_left _ (List.mem_of_getElem? (i := 1) rfl))))))
set_option maxHeartbeats 4000000 in
set_option maxRecDepth 100000 in
theorem t_X4_putLines_14_13 {p : Program} {e : Env} {s : State} {m : MethodId} {args : Array Value} {below : List Frame} {meth : Method} {c : Code} {A : Nat → Prop} {x2 : Int32}  {Q : Int32 → St → Prop} (C : Cx p s m args meth c cX4_putLines 6 (some .int) RX4 wsX4_putLines) :
    ∀ (n : Nat) (σ : St) (x3 x4 : Int32) (H : Heap) (locs : List Loc) (ls : Array Slot), wpl_X4_putLines_14_13 x2 Q n σ x3 x4 → Iw D (tyE cyI cyZ) NwC (ZsC tL tS) (wC cyI cyZ ad) A s H locs σ → lv_has ls 6 [(0, .ref (ad 23)), (1, .ref (ad 14)), (2, .int x2), (3, .int x3), (4, .int x4)] → W p l e r_X4_putLines_14 s m args below meth c H locs 0 0 (MQ below (va_Qi Q (Kq D (tyE cyI cyZ) (wC cyI cyZ ad) A) A) args s 0 0 A) (F0 m 13 ls []) := by
  obtain ⟨hx, hb, hr, hml, hown, hts, hlocks⟩ := id C
  intro n
  induction n with
  | zero =>
    intro _ _ _ _ _ _ h
    exact h.elim
  | succ n ih =>
    intro σ x3 x4 H locs ls h hI hl
    unfold wpl_X4_putLines_14_13 at h
    refine lv_iload hx hb dX4_putLines_13 (lv_at hl 4 rfl) ?_
    refine lv_bipush (v := nI 80) hx hb dX4_putLines_15 (by decide) ?_
    refine lv_icmp_ge (tgt := 75) hx hb dX4_putLines_17 (by decide) (fun c3 => ?_) (fun c3 => ?_)
    · replace h := h.1 c3
      refine lv_iload_n hx hb dX4_putLines_75 rfl (lv_at hl 2 rfl) ?_
      exact k_iret hx hb hr hlocks hI h dX4_putLines_76
    · replace h := h.2 c3
      refine lv_iload_n hx hb dX4_putLines_20 rfl (lv_at hl 3 rfl) ?_
      refine lv_aload_n hx hb dX4_putLines_21 rfl (lv_at hl 0 rfl) ?_
      refine k_get (q0 := 23) (k := 0) (ci := 4) (v := .ref (ad 15)) hx hb hts inX4_putLines_X4 hown hI rfl rfl (by decide) mX4_putLines_fieldLink_18_StillText_Setter_strip_LStillText_Strip rfl rfl dX4_putLines_22 ?_
      refine k_cVi (As := []) (rest := [.int x3]) C (c_X6_units σ  _ h) (cwV 0 hts gX4_putLines_X6_units rfl rfl rfl hdX6_units ⟨Nat.le_of_ble_eq_true rfl, Nat.le_of_ble_eq_true rfl⟩) hI 15 rfl rfl rfl hl.1 rfl (Nat.le_of_ble_eq_true rfl) dX4_putLines_25 ⟨Nat.le_of_ble_eq_true rfl, Nat.le_of_ble_eq_true rfl⟩ (fun r4 σ5 H locs h hI => ?_)
      refine lv_icmp_ge (tgt := 75) hx hb dX4_putLines_28 (by decide) (fun c6 => ?_) (fun c6 => ?_)
      · replace h := h.1 c6
        refine lv_iload_n hx hb dX4_putLines_75 rfl (lv_at hl 2 rfl) ?_
        exact k_iret hx hb hr hlocks hI h dX4_putLines_76
      · replace h := h.2 c6
        refine lv_aload_n hx hb dX4_putLines_31 rfl (lv_at hl 0 rfl) ?_
        refine k_get (q0 := 23) (k := 4) (ci := 4) (v := .int (σ5 23 4)) hx hb hts inX4_putLines_X4 hown hI rfl rfl (by decide) mX4_putLines_fieldLink_47_StillText_Setter_chosen_I rfl rfl dX4_putLines_32 ?_
        refine lv_istore (lv' := [(5, .int (σ5 23 4)), (0, .ref (ad 23)), (1, .ref (ad 14)), (2, .int x2), (3, .int x3), (4, .int x4)]) hx hb dX4_putLines_35 hl (by decide) rfl (fun ls hl => ?_)
        refine lv_aload_n hx hb dX4_putLines_37 rfl (lv_at hl 2 rfl) ?_
        refine lv_iload_n hx hb dX4_putLines_38 rfl (lv_at hl 4 rfl) ?_
        refine lv_iload hx hb dX4_putLines_39 (lv_at hl 0 rfl) ?_
        refine k_cVv (As := [.int x3, .int (σ5 23 4)]) (rest := []) C (c_X5_addLine σ5 x3 (σ5 23 4) _ h) (cwV 2 hts gX4_putLines_X5_addLine rfl rfl rfl hdX5_addLine ⟨Nat.le_of_ble_eq_true rfl, Nat.le_of_ble_eq_true rfl⟩) hI 14 rfl rfl rfl hl.1 rfl (Nat.le_of_ble_eq_true rfl) dX4_putLines_41 ⟨Nat.le_of_ble_eq_true rfl, Nat.le_of_ble_eq_true rfl⟩ (fun σ8 H locs h hI => ?_)
        refine lv_aload_n hx hb dX4_putLines_44 rfl (lv_at hl 1 rfl) ?_
        refine lv_iload_n hx hb dX4_putLines_45 rfl (lv_at hl 4 rfl) ?_
        refine lv_aload_n hx hb dX4_putLines_46 rfl (lv_at hl 1 rfl) ?_
        refine k_get (q0 := 23) (k := 0) (ci := 4) (v := .ref (ad 15)) hx hb hts inX4_putLines_X4 hown hI rfl rfl (by decide) mX4_putLines_fieldLink_18_StillText_Setter_strip_LStillText_Strip rfl rfl dX4_putLines_47 ?_
        refine lv_iload_n hx hb dX4_putLines_50 rfl (lv_at hl 4 rfl) ?_
        refine lv_iload hx hb dX4_putLines_51 (lv_at hl 0 rfl) ?_
        refine k_cVi (As := [.int x3, .int (σ5 23 4)]) (rest := [.int x3, .ref (ad 23)]) C (c_X6_body σ8 x3 (σ5 23 4) _ h) (cwV 2 hts gX4_putLines_X6_body rfl rfl rfl hdX6_body ⟨Nat.le_of_ble_eq_true rfl, Nat.le_of_ble_eq_true rfl⟩) hI 15 rfl rfl rfl hl.1 rfl (Nat.le_of_ble_eq_true rfl) dX4_putLines_53 ⟨Nat.le_of_ble_eq_true rfl, Nat.le_of_ble_eq_true rfl⟩ (fun r9 σ10 H locs h hI => ?_)
        refine lv_iload_n hx hb dX4_putLines_56 rfl (lv_at hl 4 rfl) ?_
        refine lv_iload hx hb dX4_putLines_57 (lv_at hl 0 rfl) ?_
        refine lv_iadd hx hb dX4_putLines_59 ?_
        refine k_cVi (As := [.int x3, .int r9, .int (x3 + (σ5 23 4))]) (rest := []) C (c_X4_leastBelow σ10 x3 r9 (x3 + (σ5 23 4)) _ h) (cwV 3 hts gX4_putLines_X4_leastBelow rfl rfl rfl hdX4_leastBelow ⟨Nat.le_of_ble_eq_true rfl, Nat.le_of_ble_eq_true rfl⟩) hI 23 rfl rfl rfl hl.1 rfl (Nat.le_of_ble_eq_true rfl) dX4_putLines_60 ⟨Nat.le_of_ble_eq_true rfl, Nat.le_of_ble_eq_true rfl⟩ (fun r11 σ12 H locs h hI => ?_)
        refine lv_pop hx hb dX4_putLines_63 rfl ?_
        refine lv_iload_n hx hb dX4_putLines_64 rfl (lv_at hl 4 rfl) ?_
        refine lv_iload hx hb dX4_putLines_65 (lv_at hl 0 rfl) ?_
        refine lv_iadd hx hb dX4_putLines_67 ?_
        refine lv_istore_n (lv' := [(3, .int (x3 + (σ5 23 4))), (5, .int (σ5 23 4)), (0, .ref (ad 23)), (1, .ref (ad 14)), (2, .int x2), (4, .int x4)]) hx hb dX4_putLines_68 rfl hl (by decide) rfl (fun ls hl => ?_)
        refine lv_iinc (v := (x4 + nI 1)) (lv' := [(4, .int (x4 + nI 1)), (3, .int (x3 + (σ5 23 4))), (5, .int (σ5 23 4)), (0, .ref (ad 23)), (1, .ref (ad 14)), (2, .int x2)]) hx hb dX4_putLines_69 hl (k := 5) rfl rfl (by decide) rfl (fun ls hl => ?_)
        refine lv_goto (tgt := 13) hx hb dX4_putLines_72 (by decide) ?_
        exact ih _ _ _ _ _ _ h hI (lv_sub hl [3, 4, 5, 1, 0] rfl)
set_option maxHeartbeats 4000000 in
set_option maxRecDepth 100000 in
theorem c_X4_putLines_14 (σ : St) (Q : Int32 → St → Prop) (h : wp_X4_putLines_14 σ  Q) : Ci l D (tyE cyI cyZ) NwC (ZsC tL tS) (wC cyI cyZ ad) yX4_putLines wsX4_putLines r_X4_putLines_14 [.ref (ad 23), .ref (ad 14)] σ Q := by
  refine k_metI (cc := cX4_putLines) (maxL := 6) (ret := (some .int)) (by decide) rfl (Nat.le_of_ble_eq_true rfl) ?_
  intro p e s m below meth c A ls C hI hl
  obtain ⟨hx, hb, hr, hml, hown, hts, hlocks⟩ := id C
  have hl : lv_has ls 6 [(0, .ref (ad 23)), (1, .ref (ad 14))] := hl
  unfold wp_X4_putLines_14 at h
  refine lv_aload_n hx hb dX4_putLines_0 rfl (lv_at hl 0 rfl) ?_
  refine lv_iconst (v := nI 0) hx hb dX4_putLines_1 (by decide) ?_
  refine lv_iconst (v := nI 0) hx hb dX4_putLines_2 (by decide) ?_
  refine lv_iconst (v := nI 0) hx hb dX4_putLines_3 (by decide) ?_
  refine k_cVi (As := [.int (nI 0), .int (nI 0), .int (nI 0)]) (rest := []) C (c_X4_leastBelow σ (nI 0) (nI 0) (nI 0) _ h) (cwV 3 hts gX4_putLines_X4_leastBelow rfl rfl rfl hdX4_leastBelow ⟨Nat.le_of_ble_eq_true rfl, Nat.le_of_ble_eq_true rfl⟩) hI 23 rfl rfl rfl hl.1 rfl (Nat.le_of_ble_eq_true rfl) dX4_putLines_4 ⟨Nat.le_of_ble_eq_true rfl, Nat.le_of_ble_eq_true rfl⟩ (fun r1 σ2 H locs h hI => ?_)
  refine lv_istore_n (lv' := [(2, .int r1), (0, .ref (ad 23)), (1, .ref (ad 14))]) hx hb dX4_putLines_7 rfl hl (by decide) rfl (fun ls hl => ?_)
  refine lv_iconst (v := nI 0) hx hb dX4_putLines_8 (by decide) ?_
  refine lv_istore_n (lv' := [(3, .int (nI 0)), (2, .int r1), (0, .ref (ad 23)), (1, .ref (ad 14))]) hx hb dX4_putLines_9 rfl hl (by decide) rfl (fun ls hl => ?_)
  refine lv_iconst (v := nI 0) hx hb dX4_putLines_10 (by decide) ?_
  refine lv_istore (lv' := [(4, .int (nI 0)), (3, .int (nI 0)), (2, .int r1), (0, .ref (ad 23)), (1, .ref (ad 14))]) hx hb dX4_putLines_11 hl (by decide) rfl (fun ls hl => ?_)
  obtain ⟨k13, h⟩ := h
  exact t_X4_putLines_14_13 C  k13 _ _ _ _ _ _ h hI (lv_sub hl [3, 4, 2, 1, 0] rfl)
theorem inX10_set_X10 : ∀ w ∈ wsX100, w ∈ wsX10_set := fun _ h => List.mem_cons_of_mem _ (List.mem_append_left _ (List.mem_append_left _ (List.mem_append_left _ (List.mem_append_left _ (List.mem_append_left _ (List.mem_append_right _ (h)))))))
theorem mX10_set_fieldLink_26_StillText_units_LStillText_Units : Cond.fieldLink RX10 26 "StillText" "units" "LStillText$Units;" ∈ wsX10_set := List.mem_cons_of_mem _ (List.mem_append_left _ (List.mem_append_left _ (List.mem_append_left _ (List.mem_append_left _ (List.mem_append_left _ (List.mem_append_left _ (List.mem_append_left _ (List.mem_of_getElem? (i := 0) rfl))))))))
theorem mX10_set_fieldLink_33_StillText_measures_LStillText_Measures : Cond.fieldLink RX10 33 "StillText" "measures" "LStillText$Measures;" ∈ wsX10_set := List.mem_cons_of_mem _ (List.mem_append_left _ (List.mem_append_left _ (List.mem_append_left _ (List.mem_append_left _ (List.mem_append_left _ (List.mem_append_left _ (List.mem_append_left _ (List.mem_of_getElem? (i := 1) rfl))))))))
theorem mX10_set_fieldLink_40_StillText_setting_LStillText_Setting : Cond.fieldLink RX10 40 "StillText" "setting" "LStillText$Setting;" ∈ wsX10_set := List.mem_cons_of_mem _ (List.mem_append_left _ (List.mem_append_left _ (List.mem_append_left _ (List.mem_append_left _ (List.mem_append_left _ (List.mem_append_left _ (List.mem_append_left _ (List.mem_of_getElem? (i := 2) rfl))))))))
theorem mX10_set_fieldLink_53_StillText_setter_LStillText_Setter : Cond.fieldLink RX10 53 "StillText" "setter" "LStillText$Setter;" ∈ wsX10_set := List.mem_cons_of_mem _ (List.mem_append_left _ (List.mem_append_left _ (List.mem_append_left _ (List.mem_append_left _ (List.mem_append_left _ (List.mem_append_left _ (List.mem_append_left _ (List.mem_of_getElem? (i := 3) rfl))))))))
set_option maxHeartbeats 4000000 in
set_option maxRecDepth 100000 in
theorem c_X10_set (σ : St) (Q : Int32 → St → Prop) (h : wp_X10_set σ  Q) : Ci l D (tyE cyI cyZ) NwC (ZsC tL tS) (wC cyI cyZ ad) yX10_set wsX10_set r_X10_set [.ref (ad 0)] σ Q := by
  refine k_metI (cc := cX10_set) (maxL := 1) (ret := (some .int)) (by decide) rfl (Nat.le_of_ble_eq_true rfl) ?_
  intro p e s m below meth c A ls C hI hl
  obtain ⟨hx, hb, hr, hml, hown, hts, hlocks⟩ := id C
  have hl : lv_has ls 1 [(0, .ref (ad 0))] := hl
  unfold wp_X10_set at h
  refine lv_aload_n hx hb dX10_set_0 rfl (lv_at hl 0 rfl) ?_
  refine k_get (q0 := 0) (k := 2) (ci := 10) (v := .ref (ad 8)) hx hb hts inX10_set_X10 hown hI rfl rfl (by decide) mX10_set_fieldLink_26_StillText_units_LStillText_Units rfl rfl dX10_set_1 ?_
  refine lv_aload_n hx hb dX10_set_4 rfl (lv_at hl 0 rfl) ?_
  refine k_get (q0 := 0) (k := 3) (ci := 10) (v := .ref (ad 12)) hx hb hts inX10_set_X10 hown hI rfl rfl (by decide) mX10_set_fieldLink_33_StillText_measures_LStillText_Measures rfl rfl dX10_set_5 ?_
  refine k_cVi (As := []) (rest := [.ref (ad 8)]) C (c_X1_longest σ  _ h) (cwV 0 hts gX10_set_X1_longest rfl rfl rfl hdX1_longest ⟨Nat.le_of_ble_eq_true rfl, Nat.le_of_ble_eq_true rfl⟩) hI 12 rfl rfl rfl hl.1 rfl (Nat.le_of_ble_eq_true rfl) dX10_set_8 ⟨Nat.le_of_ble_eq_true rfl, Nat.le_of_ble_eq_true rfl⟩ (fun r1 σ2 H locs h hI => ?_)
  refine k_cVi (As := [.int r1]) (rest := []) C (c_X9_fitAlone σ2 r1 _ h) (cwV 1 hts gX10_set_X9_fitAlone rfl rfl rfl hdX9_fitAlone ⟨Nat.le_of_ble_eq_true rfl, Nat.le_of_ble_eq_true rfl⟩) hI 8 rfl rfl rfl hl.1 rfl (Nat.le_of_ble_eq_true rfl) dX10_set_11 ⟨Nat.le_of_ble_eq_true rfl, Nat.le_of_ble_eq_true rfl⟩ (fun r3 σ4 H locs h hI => ?_)
  refine lv_if_ne (tgt := 19) hx hb dX10_set_14 (by decide) (fun c5 => ?_) (fun c5 => ?_)
  · replace h := h.1 c5
    refine lv_aload_n hx hb dX10_set_19 rfl (lv_at hl 0 rfl) ?_
    refine k_get (q0 := 0) (k := 4) (ci := 10) (v := .ref (ad 14)) hx hb hts inX10_set_X10 hown hI rfl rfl (by decide) mX10_set_fieldLink_40_StillText_setting_LStillText_Setting rfl rfl dX10_set_20 ?_
    refine lv_aload_n hx hb dX10_set_23 rfl (lv_at hl 0 rfl) ?_
    refine k_get (q0 := 0) (k := 2) (ci := 10) (v := .ref (ad 8)) hx hb hts inX10_set_X10 hown hI rfl rfl (by decide) mX10_set_fieldLink_26_StillText_units_LStillText_Units rfl rfl dX10_set_24 ?_
    refine lv_aload_n hx hb dX10_set_27 rfl (lv_at hl 0 rfl) ?_
    refine k_get (q0 := 0) (k := 3) (ci := 10) (v := .ref (ad 12)) hx hb hts inX10_set_X10 hown hI rfl rfl (by decide) mX10_set_fieldLink_33_StillText_measures_LStillText_Measures rfl rfl dX10_set_28 ?_
    refine k_cVi (As := []) (rest := [.ref (ad 8), .ref (ad 14)]) C (c_X1_spread σ4  _ h) (cwV 0 hts gX10_set_X1_spread rfl rfl rfl hdX1_spread ⟨Nat.le_of_ble_eq_true rfl, Nat.le_of_ble_eq_true rfl⟩) hI 12 rfl rfl rfl hl.1 rfl (Nat.le_of_ble_eq_true rfl) dX10_set_31 ⟨Nat.le_of_ble_eq_true rfl, Nat.le_of_ble_eq_true rfl⟩ (fun r6 σ7 H locs h hI => ?_)
    refine k_cVv (As := [.ref (ad 8), .int r6]) (rest := []) C (c_X5_begin_8 σ7 r6 _ h) (cwV 2 hts gX10_set_X5_begin rfl rfl rfl hdX5_begin ⟨Nat.le_of_ble_eq_true rfl, Nat.le_of_ble_eq_true rfl⟩) hI 14 rfl rfl rfl hl.1 rfl (Nat.le_of_ble_eq_true rfl) dX10_set_34 ⟨Nat.le_of_ble_eq_true rfl, Nat.le_of_ble_eq_true rfl⟩ (fun σ9 H locs h hI => ?_)
    refine lv_aload_n hx hb dX10_set_37 rfl (lv_at hl 0 rfl) ?_
    refine k_get (q0 := 0) (k := 5) (ci := 10) (v := .ref (ad 23)) hx hb hts inX10_set_X10 hown hI rfl rfl (by decide) mX10_set_fieldLink_53_StillText_setter_LStillText_Setter rfl rfl dX10_set_38 ?_
    refine k_cVv (As := []) (rest := []) C (c_X4_weighLines σ9  _ h) (cwV 0 hts gX10_set_X4_weighLines rfl rfl rfl hdX4_weighLines ⟨Nat.le_of_ble_eq_true rfl, Nat.le_of_ble_eq_true rfl⟩) hI 23 rfl rfl rfl hl.1 rfl (Nat.le_of_ble_eq_true rfl) dX10_set_41 ⟨Nat.le_of_ble_eq_true rfl, Nat.le_of_ble_eq_true rfl⟩ (fun σ11 H locs h hI => ?_)
    refine lv_aload_n hx hb dX10_set_44 rfl (lv_at hl 0 rfl) ?_
    refine k_get (q0 := 0) (k := 5) (ci := 10) (v := .ref (ad 23)) hx hb hts inX10_set_X10 hown hI rfl rfl (by decide) mX10_set_fieldLink_53_StillText_setter_LStillText_Setter rfl rfl dX10_set_45 ?_
    refine lv_aload_n hx hb dX10_set_48 rfl (lv_at hl 0 rfl) ?_
    refine k_get (q0 := 0) (k := 4) (ci := 10) (v := .ref (ad 14)) hx hb hts inX10_set_X10 hown hI rfl rfl (by decide) mX10_set_fieldLink_40_StillText_setting_LStillText_Setting rfl rfl dX10_set_49 ?_
    refine k_cVi (As := [.ref (ad 14)]) (rest := []) C (c_X4_putLines_14 σ11  _ h) (cwV 1 hts gX10_set_X4_putLines rfl rfl rfl hdX4_putLines ⟨Nat.le_of_ble_eq_true rfl, Nat.le_of_ble_eq_true rfl⟩) hI 23 rfl rfl rfl hl.1 rfl (Nat.le_of_ble_eq_true rfl) dX10_set_52 ⟨Nat.le_of_ble_eq_true rfl, Nat.le_of_ble_eq_true rfl⟩ (fun r12 σ13 H locs h hI => ?_)
    exact k_iret hx hb hr hlocks hI h dX10_set_55
  · replace h := h.2 c5
    refine lv_iconst (v := (-1)) hx hb dX10_set_17 (by decide) ?_
    exact k_iret hx hb hr hlocks hI h dX10_set_18
theorem inX5_isThere_X5 : ∀ w ∈ wsX50, w ∈ wsX5_isThere := fun _ h => List.mem_cons_of_mem _ (List.mem_append_right _ (h))
theorem mX5_isThere_fieldLink_25_StillText_Setting_there_Z : Cond.fieldLink RX5 25 "StillText$Setting" "there" "Z" ∈ wsX5_isThere := List.mem_cons_of_mem _ (List.mem_append_left _ (List.mem_of_getElem? (i := 0) rfl))
set_option maxHeartbeats 4000000 in
set_option maxRecDepth 100000 in
theorem c_X5_isThere (σ : St) (Q : Int32 → St → Prop) (h : wp_X5_isThere σ  Q) : Ci l D (tyE cyI cyZ) NwC (ZsC tL tS) (wC cyI cyZ ad) yX5_isThere wsX5_isThere r_X5_isThere [.ref (ad 14)] σ Q := by
  refine k_metI (cc := cX5_isThere) (maxL := 1) (ret := (some .boolean)) (by decide) rfl (Nat.le_of_ble_eq_true rfl) ?_
  intro p e s m below meth c A ls C hI hl
  obtain ⟨hx, hb, hr, hml, hown, hts, hlocks⟩ := id C
  have hl : lv_has ls 1 [(0, .ref (ad 14))] := hl
  unfold wp_X5_isThere at h
  refine lv_aload_n hx hb dX5_isThere_0 rfl (lv_at hl 0 rfl) ?_
  refine k_get (q0 := 14) (k := 4) (ci := 5) (v := .int (σ 14 4)) hx hb hts inX5_isThere_X5 hown hI rfl rfl (by decide) mX5_isThere_fieldLink_25_StillText_Setting_there_Z rfl rfl dX5_isThere_1 ?_
  exact k_zret hx hb hr hlocks hI h.1 h.2 dX5_isThere_4
theorem inX5_count_X5 : ∀ w ∈ wsX50, w ∈ wsX5_count := fun _ h => List.mem_cons_of_mem _ (List.mem_append_right _ (h))
theorem mX5_count_fieldLink_32_StillText_Setting_count_I : Cond.fieldLink RX5 32 "StillText$Setting" "count" "I" ∈ wsX5_count := List.mem_cons_of_mem _ (List.mem_append_left _ (List.mem_of_getElem? (i := 0) rfl))
set_option maxHeartbeats 4000000 in
set_option maxRecDepth 100000 in
theorem c_X5_count (σ : St) (Q : Int32 → St → Prop) (h : wp_X5_count σ  Q) : Ci l D (tyE cyI cyZ) NwC (ZsC tL tS) (wC cyI cyZ ad) yX5_count wsX5_count r_X5_count [.ref (ad 14)] σ Q := by
  refine k_metI (cc := cX5_count) (maxL := 1) (ret := (some .int)) (by decide) rfl (Nat.le_of_ble_eq_true rfl) ?_
  intro p e s m below meth c A ls C hI hl
  obtain ⟨hx, hb, hr, hml, hown, hts, hlocks⟩ := id C
  have hl : lv_has ls 1 [(0, .ref (ad 14))] := hl
  unfold wp_X5_count at h
  refine lv_aload_n hx hb dX5_count_0 rfl (lv_at hl 0 rfl) ?_
  refine k_get (q0 := 14) (k := 3) (ci := 5) (v := .int (σ 14 3)) hx hb hts inX5_count_X5 hown hI rfl rfl (by decide) mX5_count_fieldLink_32_StillText_Setting_count_I rfl rfl dX5_count_1 ?_
  exact k_iret hx hb hr hlocks hI h dX5_count_4
theorem inX10_lines_X10 : ∀ w ∈ wsX100, w ∈ wsX10_lines := fun _ h => List.mem_cons_of_mem _ (List.mem_append_left _ (List.mem_append_right _ (h)))
theorem mX10_lines_fieldLink_40_StillText_setting_LStillText_Setting : Cond.fieldLink RX10 40 "StillText" "setting" "LStillText$Setting;" ∈ wsX10_lines := List.mem_cons_of_mem _ (List.mem_append_left _ (List.mem_append_left _ (List.mem_of_getElem? (i := 0) rfl)))
set_option maxHeartbeats 4000000 in
set_option maxRecDepth 100000 in
theorem c_X10_lines (σ : St) (Q : Int32 → St → Prop) (h : wp_X10_lines σ  Q) : Ci l D (tyE cyI cyZ) NwC (ZsC tL tS) (wC cyI cyZ ad) yX10_lines wsX10_lines r_X10_lines [.ref (ad 0)] σ Q := by
  refine k_metI (cc := cX10_lines) (maxL := 1) (ret := (some .int)) (by decide) rfl (Nat.le_of_ble_eq_true rfl) ?_
  intro p e s m below meth c A ls C hI hl
  obtain ⟨hx, hb, hr, hml, hown, hts, hlocks⟩ := id C
  have hl : lv_has ls 1 [(0, .ref (ad 0))] := hl
  unfold wp_X10_lines at h
  refine lv_aload_n hx hb dX10_lines_0 rfl (lv_at hl 0 rfl) ?_
  refine k_get (q0 := 0) (k := 4) (ci := 10) (v := .ref (ad 14)) hx hb hts inX10_lines_X10 hown hI rfl rfl (by decide) mX10_lines_fieldLink_40_StillText_setting_LStillText_Setting rfl rfl dX10_lines_1 ?_
  refine k_cVi (As := []) (rest := []) C (c_X5_isThere σ  _ h) (cwV 0 hts gX10_lines_X5_isThere rfl rfl rfl hdX5_isThere ⟨Nat.le_of_ble_eq_true rfl, Nat.le_of_ble_eq_true rfl⟩) hI 14 rfl rfl rfl hl.1 rfl (Nat.le_of_ble_eq_true rfl) dX10_lines_4 ⟨Nat.le_of_ble_eq_true rfl, Nat.le_of_ble_eq_true rfl⟩ (fun r1 σ2 H locs h hI => ?_)
  refine lv_if_eq (tgt := 20) hx hb dX10_lines_7 (by decide) (fun c3 => ?_) (fun c3 => ?_)
  · replace h := h.1 c3
    refine lv_iconst (v := (-1)) hx hb dX10_lines_20 (by decide) ?_
    exact k_iret hx hb hr hlocks hI h dX10_lines_21
  · replace h := h.2 c3
    refine lv_aload_n hx hb dX10_lines_10 rfl (lv_at hl 0 rfl) ?_
    refine k_get (q0 := 0) (k := 4) (ci := 10) (v := .ref (ad 14)) hx hb hts inX10_lines_X10 hown hI rfl rfl (by decide) mX10_lines_fieldLink_40_StillText_setting_LStillText_Setting rfl rfl dX10_lines_11 ?_
    refine k_cVi (As := []) (rest := []) C (c_X5_count σ2  _ h) (cwV 0 hts gX10_lines_X5_count rfl rfl rfl hdX5_count ⟨Nat.le_of_ble_eq_true rfl, Nat.le_of_ble_eq_true rfl⟩) hI 14 rfl rfl rfl hl.1 rfl (Nat.le_of_ble_eq_true rfl) dX10_lines_14 ⟨Nat.le_of_ble_eq_true rfl, Nat.le_of_ble_eq_true rfl⟩ (fun r4 σ5 H locs h hI => ?_)
    refine lv_goto (tgt := 21) hx hb dX10_lines_17 (by decide) ?_
    exact k_iret hx hb hr hlocks hI h dX10_lines_21
theorem inX5_has_X5 : ∀ w ∈ wsX50, w ∈ wsX5_has := fun _ h => List.mem_cons_of_mem _ (List.mem_append_right _ (h))
theorem mX5_has_fieldLink_25_StillText_Setting_there_Z : Cond.fieldLink RX5 25 "StillText$Setting" "there" "Z" ∈ wsX5_has := List.mem_cons_of_mem _ (List.mem_append_left _ (List.mem_of_getElem? (i := 0) rfl))
theorem mX5_has_fieldLink_32_StillText_Setting_count_I : Cond.fieldLink RX5 32 "StillText$Setting" "count" "I" ∈ wsX5_has := List.mem_cons_of_mem _ (List.mem_append_left _ (List.mem_of_getElem? (i := 1) rfl))
set_option maxHeartbeats 4000000 in
set_option maxRecDepth 100000 in
theorem c_X5_has (σ : St) (x1 : Int32) (Q : Int32 → St → Prop) (h : wp_X5_has σ x1 Q) : Ci l D (tyE cyI cyZ) NwC (ZsC tL tS) (wC cyI cyZ ad) yX5_has wsX5_has r_X5_has [.ref (ad 14), .int x1] σ Q := by
  refine k_metI (cc := cX5_has) (maxL := 2) (ret := (some .boolean)) (by decide) rfl (Nat.le_of_ble_eq_true rfl) ?_
  intro p e s m below meth c A ls C hI hl
  obtain ⟨hx, hb, hr, hml, hown, hts, hlocks⟩ := id C
  have hl : lv_has ls 2 [(0, .ref (ad 14)), (1, .int x1)] := hl
  unfold wp_X5_has at h
  refine lv_aload_n hx hb dX5_has_0 rfl (lv_at hl 0 rfl) ?_
  refine k_get (q0 := 14) (k := 4) (ci := 5) (v := .int (σ 14 4)) hx hb hts inX5_has_X5 hown hI rfl rfl (by decide) mX5_has_fieldLink_25_StillText_Setting_there_Z rfl rfl dX5_has_1 ?_
  refine lv_if_eq (tgt := 23) hx hb dX5_has_4 (by decide) (fun c1 => ?_) (fun c1 => ?_)
  · replace h := h.1 c1
    refine lv_iconst (v := nI 0) hx hb dX5_has_23 (by decide) ?_
    exact k_zret hx hb hr hlocks hI (Or.inl rfl) h dX5_has_24
  · replace h := h.2 c1
    refine lv_iload_n hx hb dX5_has_7 rfl (lv_at hl 1 rfl) ?_
    refine lv_if_lt (tgt := 23) hx hb dX5_has_8 (by decide) (fun c2 => ?_) (fun c2 => ?_)
    · replace h := h.1 c2
      refine lv_iconst (v := nI 0) hx hb dX5_has_23 (by decide) ?_
      exact k_zret hx hb hr hlocks hI (Or.inl rfl) h dX5_has_24
    · replace h := h.2 c2
      refine lv_iload_n hx hb dX5_has_11 rfl (lv_at hl 1 rfl) ?_
      refine lv_aload_n hx hb dX5_has_12 rfl (lv_at hl 0 rfl) ?_
      refine k_get (q0 := 14) (k := 3) (ci := 5) (v := .int (σ 14 3)) hx hb hts inX5_has_X5 hown hI rfl rfl (by decide) mX5_has_fieldLink_32_StillText_Setting_count_I rfl rfl dX5_has_13 ?_
      refine lv_icmp_ge (tgt := 23) hx hb dX5_has_16 (by decide) (fun c3 => ?_) (fun c3 => ?_)
      · replace h := h.1 c3
        refine lv_iconst (v := nI 0) hx hb dX5_has_23 (by decide) ?_
        exact k_zret hx hb hr hlocks hI (Or.inl rfl) h dX5_has_24
      · replace h := h.2 c3
        refine lv_iconst (v := nI 1) hx hb dX5_has_19 (by decide) ?_
        refine lv_goto (tgt := 24) hx hb dX5_has_20 (by decide) ?_
        exact k_zret hx hb hr hlocks hI (Or.inr rfl) h dX5_has_24
theorem inX5_first_X5 : ∀ w ∈ wsX50, w ∈ wsX5_first := fun _ h => List.mem_cons_of_mem _ (List.mem_append_right _ (h))
theorem mX5_first_fieldLink_18_StillText_Setting_firsts_I : Cond.fieldLink RX5 18 "StillText$Setting" "firsts" "[I" ∈ wsX5_first := List.mem_cons_of_mem _ (List.mem_append_left _ (List.mem_of_getElem? (i := 0) rfl))
set_option maxHeartbeats 4000000 in
set_option maxRecDepth 100000 in
theorem c_X5_first (σ : St) (x1 : Int32) (Q : Int32 → St → Prop) (h : wp_X5_first σ x1 Q) : Ci l D (tyE cyI cyZ) NwC (ZsC tL tS) (wC cyI cyZ ad) yX5_first wsX5_first r_X5_first [.ref (ad 14), .int x1] σ Q := by
  refine k_metI (cc := cX5_first) (maxL := 2) (ret := (some .int)) (by decide) rfl (Nat.le_of_ble_eq_true rfl) ?_
  intro p e s m below meth c A ls C hI hl
  obtain ⟨hx, hb, hr, hml, hown, hts, hlocks⟩ := id C
  have hl : lv_has ls 2 [(0, .ref (ad 14)), (1, .int x1)] := hl
  unfold wp_X5_first at h
  refine lv_aload_n hx hb dX5_first_0 rfl (lv_at hl 0 rfl) ?_
  refine lv_iload_n hx hb dX5_first_1 rfl (lv_at hl 1 rfl) ?_
  refine k_cVi (As := [.int x1]) (rest := []) C (c_X5_has σ x1 _ h) (cwV 1 hts gX5_first_X5_has rfl rfl rfl hdX5_has ⟨Nat.le_of_ble_eq_true rfl, Nat.le_of_ble_eq_true rfl⟩) hI 14 rfl rfl rfl hl.1 rfl (Nat.le_of_ble_eq_true rfl) dX5_first_2 ⟨Nat.le_of_ble_eq_true rfl, Nat.le_of_ble_eq_true rfl⟩ (fun r1 σ2 H locs h hI => ?_)
  refine lv_if_eq (tgt := 17) hx hb dX5_first_5 (by decide) (fun c3 => ?_) (fun c3 => ?_)
  · replace h := h.1 c3
    refine lv_iconst (v := (-1)) hx hb dX5_first_17 (by decide) ?_
    exact k_iret hx hb hr hlocks hI h dX5_first_18
  · replace h := h.2 c3
    refine lv_aload_n hx hb dX5_first_8 rfl (lv_at hl 0 rfl) ?_
    refine k_get (q0 := 14) (k := 1) (ci := 5) (v := .ref (ad 21)) hx hb hts inX5_first_X5 hown hI rfl rfl (by decide) mX5_first_fieldLink_18_StillText_Setting_firsts_I rfl rfl dX5_first_9 ?_
    refine lv_iload_n hx hb dX5_first_12 rfl (lv_at hl 1 rfl) ?_
    refine k_iald (q0 := 21) (t0 := 0) (n := 80) (f := σ2 21) hx hb hI rfl rfl h.1 dX5_first_13 ?_
    replace h := h.2
    refine lv_goto (tgt := 18) hx hb dX5_first_14 (by decide) ?_
    exact k_iret hx hb hr hlocks hI h dX5_first_18
theorem inX5_unitsIn_X5 : ∀ w ∈ wsX50, w ∈ wsX5_unitsIn := fun _ h => List.mem_cons_of_mem _ (List.mem_append_right _ (h))
theorem mX5_unitsIn_fieldLink_22_StillText_Setting_manys_I : Cond.fieldLink RX5 22 "StillText$Setting" "manys" "[I" ∈ wsX5_unitsIn := List.mem_cons_of_mem _ (List.mem_append_left _ (List.mem_of_getElem? (i := 0) rfl))
set_option maxHeartbeats 4000000 in
set_option maxRecDepth 100000 in
theorem c_X5_unitsIn (σ : St) (x1 : Int32) (Q : Int32 → St → Prop) (h : wp_X5_unitsIn σ x1 Q) : Ci l D (tyE cyI cyZ) NwC (ZsC tL tS) (wC cyI cyZ ad) yX5_unitsIn wsX5_unitsIn r_X5_unitsIn [.ref (ad 14), .int x1] σ Q := by
  refine k_metI (cc := cX5_unitsIn) (maxL := 2) (ret := (some .int)) (by decide) rfl (Nat.le_of_ble_eq_true rfl) ?_
  intro p e s m below meth c A ls C hI hl
  obtain ⟨hx, hb, hr, hml, hown, hts, hlocks⟩ := id C
  have hl : lv_has ls 2 [(0, .ref (ad 14)), (1, .int x1)] := hl
  unfold wp_X5_unitsIn at h
  refine lv_aload_n hx hb dX5_unitsIn_0 rfl (lv_at hl 0 rfl) ?_
  refine lv_iload_n hx hb dX5_unitsIn_1 rfl (lv_at hl 1 rfl) ?_
  refine k_cVi (As := [.int x1]) (rest := []) C (c_X5_has σ x1 _ h) (cwV 1 hts gX5_unitsIn_X5_has rfl rfl rfl hdX5_has ⟨Nat.le_of_ble_eq_true rfl, Nat.le_of_ble_eq_true rfl⟩) hI 14 rfl rfl rfl hl.1 rfl (Nat.le_of_ble_eq_true rfl) dX5_unitsIn_2 ⟨Nat.le_of_ble_eq_true rfl, Nat.le_of_ble_eq_true rfl⟩ (fun r1 σ2 H locs h hI => ?_)
  refine lv_if_eq (tgt := 17) hx hb dX5_unitsIn_5 (by decide) (fun c3 => ?_) (fun c3 => ?_)
  · replace h := h.1 c3
    refine lv_iconst (v := (-1)) hx hb dX5_unitsIn_17 (by decide) ?_
    exact k_iret hx hb hr hlocks hI h dX5_unitsIn_18
  · replace h := h.2 c3
    refine lv_aload_n hx hb dX5_unitsIn_8 rfl (lv_at hl 0 rfl) ?_
    refine k_get (q0 := 14) (k := 2) (ci := 5) (v := .ref (ad 22)) hx hb hts inX5_unitsIn_X5 hown hI rfl rfl (by decide) mX5_unitsIn_fieldLink_22_StillText_Setting_manys_I rfl rfl dX5_unitsIn_9 ?_
    refine lv_iload_n hx hb dX5_unitsIn_12 rfl (lv_at hl 1 rfl) ?_
    refine k_iald (q0 := 22) (t0 := 0) (n := 80) (f := σ2 22) hx hb hI rfl rfl h.1 dX5_unitsIn_13 ?_
    replace h := h.2
    refine lv_goto (tgt := 18) hx hb dX5_unitsIn_14 (by decide) ?_
    exact k_iret hx hb hr hlocks hI h dX5_unitsIn_18
theorem inX5_signsIn_X5 : ∀ w ∈ wsX50, w ∈ wsX5_signsIn := fun _ h => List.mem_cons_of_mem _ (List.mem_append_left _ (List.mem_append_right _ (h)))
theorem mX5_signsIn_fieldLink_12_StillText_Setting_strip_LStillText_Strip : Cond.fieldLink RX5 12 "StillText$Setting" "strip" "LStillText$Strip;" ∈ wsX5_signsIn := List.mem_cons_of_mem _ (List.mem_append_left _ (List.mem_append_left _ (List.mem_append_left _ (List.mem_of_getElem? (i := 0) rfl))))
theorem mX5_signsIn_fieldLink_18_StillText_Setting_firsts_I : Cond.fieldLink RX5 18 "StillText$Setting" "firsts" "[I" ∈ wsX5_signsIn := List.mem_cons_of_mem _ (List.mem_append_left _ (List.mem_append_left _ (List.mem_append_left _ (List.mem_of_getElem? (i := 1) rfl))))
theorem mX5_signsIn_fieldLink_22_StillText_Setting_manys_I : Cond.fieldLink RX5 22 "StillText$Setting" "manys" "[I" ∈ wsX5_signsIn := List.mem_cons_of_mem _ (List.mem_append_left _ (List.mem_append_left _ (List.mem_append_left _ (List.mem_of_getElem? (i := 2) rfl))))
set_option maxHeartbeats 4000000 in
set_option maxRecDepth 100000 in
theorem c_X5_signsIn (σ : St) (x1 : Int32) (Q : Int32 → St → Prop) (h : wp_X5_signsIn σ x1 Q) : Ci l D (tyE cyI cyZ) NwC (ZsC tL tS) (wC cyI cyZ ad) yX5_signsIn wsX5_signsIn r_X5_signsIn [.ref (ad 14), .int x1] σ Q := by
  refine k_metI (cc := cX5_signsIn) (maxL := 2) (ret := (some .int)) (by decide) rfl (Nat.le_of_ble_eq_true rfl) ?_
  intro p e s m below meth c A ls C hI hl
  obtain ⟨hx, hb, hr, hml, hown, hts, hlocks⟩ := id C
  have hl : lv_has ls 2 [(0, .ref (ad 14)), (1, .int x1)] := hl
  unfold wp_X5_signsIn at h
  refine lv_aload_n hx hb dX5_signsIn_0 rfl (lv_at hl 0 rfl) ?_
  refine lv_iload_n hx hb dX5_signsIn_1 rfl (lv_at hl 1 rfl) ?_
  refine k_cVi (As := [.int x1]) (rest := []) C (c_X5_has σ x1 _ h) (cwV 1 hts gX5_signsIn_X5_has rfl rfl rfl hdX5_has ⟨Nat.le_of_ble_eq_true rfl, Nat.le_of_ble_eq_true rfl⟩) hI 14 rfl rfl rfl hl.1 rfl (Nat.le_of_ble_eq_true rfl) dX5_signsIn_2 ⟨Nat.le_of_ble_eq_true rfl, Nat.le_of_ble_eq_true rfl⟩ (fun r1 σ2 H locs h hI => ?_)
  refine lv_if_eq (tgt := 30) hx hb dX5_signsIn_5 (by decide) (fun c3 => ?_) (fun c3 => ?_)
  · replace h := h.1 c3
    refine lv_iconst (v := (-1)) hx hb dX5_signsIn_30 (by decide) ?_
    exact k_iret hx hb hr hlocks hI h dX5_signsIn_31
  · replace h := h.2 c3
    refine lv_aload_n hx hb dX5_signsIn_8 rfl (lv_at hl 0 rfl) ?_
    refine k_get (q0 := 14) (k := 0) (ci := 5) (v := .ref (ad 15)) hx hb hts inX5_signsIn_X5 hown hI rfl rfl (by decide) mX5_signsIn_fieldLink_12_StillText_Setting_strip_LStillText_Strip rfl rfl dX5_signsIn_9 ?_
    refine lv_aload_n hx hb dX5_signsIn_12 rfl (lv_at hl 0 rfl) ?_
    refine k_get (q0 := 14) (k := 1) (ci := 5) (v := .ref (ad 21)) hx hb hts inX5_signsIn_X5 hown hI rfl rfl (by decide) mX5_signsIn_fieldLink_18_StillText_Setting_firsts_I rfl rfl dX5_signsIn_13 ?_
    refine lv_iload_n hx hb dX5_signsIn_16 rfl (lv_at hl 1 rfl) ?_
    refine k_iald (q0 := 21) (t0 := 0) (n := 80) (f := σ2 21) hx hb hI rfl rfl h.1 dX5_signsIn_17 ?_
    replace h := h.2
    refine lv_aload_n hx hb dX5_signsIn_18 rfl (lv_at hl 0 rfl) ?_
    refine k_get (q0 := 14) (k := 2) (ci := 5) (v := .ref (ad 22)) hx hb hts inX5_signsIn_X5 hown hI rfl rfl (by decide) mX5_signsIn_fieldLink_22_StillText_Setting_manys_I rfl rfl dX5_signsIn_19 ?_
    refine lv_iload_n hx hb dX5_signsIn_22 rfl (lv_at hl 1 rfl) ?_
    refine k_iald (q0 := 22) (t0 := 0) (n := 80) (f := σ2 22) hx hb hI rfl rfl h.1 dX5_signsIn_23 ?_
    replace h := h.2
    refine k_cVi (As := [.int (σ2 21 x1.toNatClampNeg), .int (σ2 22 x1.toNatClampNeg)]) (rest := []) C (c_X6_signsOf σ2 (σ2 21 x1.toNatClampNeg) (σ2 22 x1.toNatClampNeg) _ h) (cwV 2 hts gX5_signsIn_X6_signsOf rfl rfl rfl hdX6_signsOf ⟨Nat.le_of_ble_eq_true rfl, Nat.le_of_ble_eq_true rfl⟩) hI 15 rfl rfl rfl hl.1 rfl (Nat.le_of_ble_eq_true rfl) dX5_signsIn_24 ⟨Nat.le_of_ble_eq_true rfl, Nat.le_of_ble_eq_true rfl⟩ (fun r4 σ5 H locs h hI => ?_)
    refine lv_goto (tgt := 31) hx hb dX5_signsIn_27 (by decide) ?_
    exact k_iret hx hb hr hlocks hI h dX5_signsIn_31
theorem inX2_tintOf_X2 : ∀ w ∈ wsX20, w ∈ wsX2_tintOf := fun _ h => List.mem_cons_of_mem _ (List.mem_append_right _ (h))
theorem mX2_tintOf_fieldLink_7_StillText_Pages_rows_I : Cond.fieldLink RX2 7 "StillText$Pages" "rows" "I" ∈ wsX2_tintOf := List.mem_cons_of_mem _ (List.mem_append_left _ (List.mem_of_getElem? (i := 0) rfl))
theorem mX2_tintOf_fieldLink_13_StillText_Pages_tints_I : Cond.fieldLink RX2 13 "StillText$Pages" "tints" "I" ∈ wsX2_tintOf := List.mem_cons_of_mem _ (List.mem_append_left _ (List.mem_of_getElem? (i := 1) rfl))
set_option maxHeartbeats 4000000 in
set_option maxRecDepth 100000 in
theorem c_X2_tintOf (σ : St) (x1 : Int32) (Q : Int32 → St → Prop) (h : wp_X2_tintOf σ x1 Q) : Ci l D (tyE cyI cyZ) NwC (ZsC tL tS) (wC cyI cyZ ad) yX2_tintOf wsX2_tintOf r_X2_tintOf [.ref (ad 26), .int x1] σ Q := by
  refine k_metI (cc := cX2_tintOf) (maxL := 2) (ret := (some .int)) (by decide) rfl (Nat.le_of_ble_eq_true rfl) ?_
  intro p e s m below meth c A ls C hI hl
  obtain ⟨hx, hb, hr, hml, hown, hts, hlocks⟩ := id C
  have hl : lv_has ls 2 [(0, .ref (ad 26)), (1, .int x1)] := hl
  unfold wp_X2_tintOf at h
  refine lv_iload_n hx hb dX2_tintOf_0 rfl (lv_at hl 1 rfl) ?_
  refine lv_aload_n hx hb dX2_tintOf_1 rfl (lv_at hl 0 rfl) ?_
  refine k_get (q0 := 26) (k := 0) (ci := 2) (v := .int (σ 26 0)) hx hb hts inX2_tintOf_X2 hown hI rfl rfl (by decide) mX2_tintOf_fieldLink_7_StillText_Pages_rows_I rfl rfl dX2_tintOf_2 ?_
  refine lv_irem hx hb dX2_tintOf_5 h.1 ?_
  replace h := h.2
  refine lv_iload_n hx hb dX2_tintOf_6 rfl (lv_at hl 1 rfl) ?_
  refine lv_aload_n hx hb dX2_tintOf_7 rfl (lv_at hl 0 rfl) ?_
  refine k_get (q0 := 26) (k := 0) (ci := 2) (v := .int (σ 26 0)) hx hb hts inX2_tintOf_X2 hown hI rfl rfl (by decide) mX2_tintOf_fieldLink_7_StillText_Pages_rows_I rfl rfl dX2_tintOf_8 ?_
  refine lv_idiv hx hb dX2_tintOf_11 h.1 ?_
  replace h := h.2
  refine lv_iadd hx hb dX2_tintOf_12 ?_
  refine lv_aload_n hx hb dX2_tintOf_13 rfl (lv_at hl 0 rfl) ?_
  refine k_get (q0 := 26) (k := 1) (ci := 2) (v := .int (σ 26 1)) hx hb hts inX2_tintOf_X2 hown hI rfl rfl (by decide) mX2_tintOf_fieldLink_13_StillText_Pages_tints_I rfl rfl dX2_tintOf_14 ?_
  refine lv_irem hx hb dX2_tintOf_17 h.1 ?_
  replace h := h.2
  exact k_iret hx hb hr hlocks hI h dX2_tintOf_18
theorem inX2_pageOf_X2 : ∀ w ∈ wsX20, w ∈ wsX2_pageOf := fun _ h => List.mem_cons_of_mem _ (List.mem_append_right _ (h))
theorem mX2_pageOf_fieldLink_7_StillText_Pages_rows_I : Cond.fieldLink RX2 7 "StillText$Pages" "rows" "I" ∈ wsX2_pageOf := List.mem_cons_of_mem _ (List.mem_append_left _ (List.mem_of_getElem? (i := 0) rfl))
set_option maxHeartbeats 4000000 in
set_option maxRecDepth 100000 in
theorem c_X2_pageOf (σ : St) (x1 : Int32) (Q : Int32 → St → Prop) (h : wp_X2_pageOf σ x1 Q) : Ci l D (tyE cyI cyZ) NwC (ZsC tL tS) (wC cyI cyZ ad) yX2_pageOf wsX2_pageOf r_X2_pageOf [.ref (ad 26), .int x1] σ Q := by
  refine k_metI (cc := cX2_pageOf) (maxL := 2) (ret := (some .int)) (by decide) rfl (Nat.le_of_ble_eq_true rfl) ?_
  intro p e s m below meth c A ls C hI hl
  obtain ⟨hx, hb, hr, hml, hown, hts, hlocks⟩ := id C
  have hl : lv_has ls 2 [(0, .ref (ad 26)), (1, .int x1)] := hl
  unfold wp_X2_pageOf at h
  refine lv_iload_n hx hb dX2_pageOf_0 rfl (lv_at hl 1 rfl) ?_
  refine lv_aload_n hx hb dX2_pageOf_1 rfl (lv_at hl 0 rfl) ?_
  refine k_get (q0 := 26) (k := 0) (ci := 2) (v := .int (σ 26 0)) hx hb hts inX2_pageOf_X2 hown hI rfl rfl (by decide) mX2_pageOf_fieldLink_7_StillText_Pages_rows_I rfl rfl dX2_pageOf_2 ?_
  refine lv_idiv hx hb dX2_pageOf_5 h.1 ?_
  replace h := h.2
  exact k_iret hx hb hr hlocks hI h dX2_pageOf_6
theorem inX10_line_X10 : ∀ w ∈ wsX100, w ∈ wsX10_line := fun _ h => List.mem_cons_of_mem _ (List.mem_append_left _ (List.mem_append_left _ (List.mem_append_left _ (List.mem_append_right _ (h)))))
theorem mX10_line_fieldLink_40_StillText_setting_LStillText_Setting : Cond.fieldLink RX10 40 "StillText" "setting" "LStillText$Setting;" ∈ wsX10_line := List.mem_cons_of_mem _ (List.mem_append_left _ (List.mem_append_left _ (List.mem_append_left _ (List.mem_append_left _ (List.mem_append_left _ (List.mem_of_getElem? (i := 0) rfl))))))
theorem mX10_line_fieldLink_60_StillText_pages_LStillText_Pages : Cond.fieldLink RX10 60 "StillText" "pages" "LStillText$Pages;" ∈ wsX10_line := List.mem_cons_of_mem _ (List.mem_append_left _ (List.mem_append_left _ (List.mem_append_left _ (List.mem_append_left _ (List.mem_append_left _ (List.mem_of_getElem? (i := 1) rfl))))))
set_option maxHeartbeats 4000000 in
set_option maxRecDepth 100000 in
theorem c_X10_line (σ : St) (x1 x2 : Int32) (Q : Int32 → St → Prop) (h : wp_X10_line σ x1 x2 Q) : Ci l D (tyE cyI cyZ) NwC (ZsC tL tS) (wC cyI cyZ ad) yX10_line wsX10_line r_X10_line [.ref (ad 0), .int x1, .int x2] σ Q := by
  refine k_metI (cc := cX10_line) (maxL := 3) (ret := (some .int)) (by decide) rfl (Nat.le_of_ble_eq_true rfl) ?_
  intro p e s m below meth c A ls C hI hl
  obtain ⟨hx, hb, hr, hml, hown, hts, hlocks⟩ := id C
  have hl : lv_has ls 3 [(0, .ref (ad 0)), (1, .int x1), (2, .int x2)] := hl
  unfold wp_X10_line at h
  refine lv_aload_n hx hb dX10_line_0 rfl (lv_at hl 0 rfl) ?_
  refine k_get (q0 := 0) (k := 4) (ci := 10) (v := .ref (ad 14)) hx hb hts inX10_line_X10 hown hI rfl rfl (by decide) mX10_line_fieldLink_40_StillText_setting_LStillText_Setting rfl rfl dX10_line_1 ?_
  refine lv_iload_n hx hb dX10_line_4 rfl (lv_at hl 1 rfl) ?_
  refine k_cVi (As := [.int x1]) (rest := []) C (c_X5_has σ x1 _ h) (cwV 1 hts gX10_line_X5_has rfl rfl rfl hdX5_has ⟨Nat.le_of_ble_eq_true rfl, Nat.le_of_ble_eq_true rfl⟩) hI 14 rfl rfl rfl hl.1 rfl (Nat.le_of_ble_eq_true rfl) dX10_line_5 ⟨Nat.le_of_ble_eq_true rfl, Nat.le_of_ble_eq_true rfl⟩ (fun r1 σ2 H locs h hI => ?_)
  refine lv_if_ne (tgt := 13) hx hb dX10_line_8 (by decide) (fun c3 => ?_) (fun c3 => ?_)
  · replace h := h.1 c3
    refine lv_iload_n hx hb dX10_line_13 rfl (lv_at hl 2 rfl) ?_
    by_cases c4 : x2 = nI 0
    · replace h := h.1 c4
      refine lv_tableIn (off := 34) (tgt := 48) hx hb dX10_line_14 (by rw [c4]; decide) (by rw [c4]; decide) (by rw [c4]; rfl) (by decide) ?_
      refine lv_aload_n hx hb dX10_line_48 rfl (lv_at hl 0 rfl) ?_
      refine k_get (q0 := 0) (k := 4) (ci := 10) (v := .ref (ad 14)) hx hb hts inX10_line_X10 hown hI rfl rfl (by decide) mX10_line_fieldLink_40_StillText_setting_LStillText_Setting rfl rfl dX10_line_49 ?_
      refine lv_iload_n hx hb dX10_line_52 rfl (lv_at hl 1 rfl) ?_
      refine k_cVi (As := [.int x1]) (rest := []) C (c_X5_first σ2 x1 _ h) (cwV 1 hts gX10_line_X5_first rfl rfl rfl hdX5_first ⟨Nat.le_of_ble_eq_true rfl, Nat.le_of_ble_eq_true rfl⟩) hI 14 rfl rfl rfl hl.1 rfl (Nat.le_of_ble_eq_true rfl) dX10_line_53 ⟨Nat.le_of_ble_eq_true rfl, Nat.le_of_ble_eq_true rfl⟩ (fun r5 σ6 H locs h hI => ?_)
      exact k_iret hx hb hr hlocks hI h dX10_line_56
    · replace h := h.2 c4
      by_cases c7 : x2 = nI 1
      · replace h := h.1 c7
        refine lv_tableIn (off := 43) (tgt := 57) hx hb dX10_line_14 (by rw [c7]; decide) (by rw [c7]; decide) (by rw [c7]; rfl) (by decide) ?_
        refine lv_aload_n hx hb dX10_line_57 rfl (lv_at hl 0 rfl) ?_
        refine k_get (q0 := 0) (k := 4) (ci := 10) (v := .ref (ad 14)) hx hb hts inX10_line_X10 hown hI rfl rfl (by decide) mX10_line_fieldLink_40_StillText_setting_LStillText_Setting rfl rfl dX10_line_58 ?_
        refine lv_iload_n hx hb dX10_line_61 rfl (lv_at hl 1 rfl) ?_
        refine k_cVi (As := [.int x1]) (rest := []) C (c_X5_unitsIn σ2 x1 _ h) (cwV 1 hts gX10_line_X5_unitsIn rfl rfl rfl hdX5_unitsIn ⟨Nat.le_of_ble_eq_true rfl, Nat.le_of_ble_eq_true rfl⟩) hI 14 rfl rfl rfl hl.1 rfl (Nat.le_of_ble_eq_true rfl) dX10_line_62 ⟨Nat.le_of_ble_eq_true rfl, Nat.le_of_ble_eq_true rfl⟩ (fun r8 σ9 H locs h hI => ?_)
        exact k_iret hx hb hr hlocks hI h dX10_line_65
      · replace h := h.2 c7
        by_cases c10 : x2 = nI 2
        · replace h := h.1 c10
          refine lv_tableIn (off := 52) (tgt := 66) hx hb dX10_line_14 (by rw [c10]; decide) (by rw [c10]; decide) (by rw [c10]; rfl) (by decide) ?_
          refine lv_aload_n hx hb dX10_line_66 rfl (lv_at hl 0 rfl) ?_
          refine k_get (q0 := 0) (k := 4) (ci := 10) (v := .ref (ad 14)) hx hb hts inX10_line_X10 hown hI rfl rfl (by decide) mX10_line_fieldLink_40_StillText_setting_LStillText_Setting rfl rfl dX10_line_67 ?_
          refine lv_iload_n hx hb dX10_line_70 rfl (lv_at hl 1 rfl) ?_
          refine k_cVi (As := [.int x1]) (rest := []) C (c_X5_signsIn σ2 x1 _ h) (cwV 1 hts gX10_line_X5_signsIn rfl rfl rfl hdX5_signsIn ⟨Nat.le_of_ble_eq_true rfl, Nat.le_of_ble_eq_true rfl⟩) hI 14 rfl rfl rfl hl.1 rfl (Nat.le_of_ble_eq_true rfl) dX10_line_71 ⟨Nat.le_of_ble_eq_true rfl, Nat.le_of_ble_eq_true rfl⟩ (fun r11 σ12 H locs h hI => ?_)
          exact k_iret hx hb hr hlocks hI h dX10_line_74
        · replace h := h.2 c10
          by_cases c13 : x2 = nI 3
          · replace h := h.1 c13
            refine lv_tableIn (off := 61) (tgt := 75) hx hb dX10_line_14 (by rw [c13]; decide) (by rw [c13]; decide) (by rw [c13]; rfl) (by decide) ?_
            refine lv_aload_n hx hb dX10_line_75 rfl (lv_at hl 0 rfl) ?_
            refine k_get (q0 := 0) (k := 6) (ci := 10) (v := .ref (ad 26)) hx hb hts inX10_line_X10 hown hI rfl rfl (by decide) mX10_line_fieldLink_60_StillText_pages_LStillText_Pages rfl rfl dX10_line_76 ?_
            refine lv_iload_n hx hb dX10_line_79 rfl (lv_at hl 1 rfl) ?_
            refine k_cVi (As := [.int x1]) (rest := []) C (c_X2_tintOf σ2 x1 _ h) (cwV 1 hts gX10_line_X2_tintOf rfl rfl rfl hdX2_tintOf ⟨Nat.le_of_ble_eq_true rfl, Nat.le_of_ble_eq_true rfl⟩) hI 26 rfl rfl rfl hl.1 rfl (Nat.le_of_ble_eq_true rfl) dX10_line_80 ⟨Nat.le_of_ble_eq_true rfl, Nat.le_of_ble_eq_true rfl⟩ (fun r14 σ15 H locs h hI => ?_)
            exact k_iret hx hb hr hlocks hI h dX10_line_83
          · replace h := h.2 c13
            by_cases c16 : x2 = nI 4
            · replace h := h.1 c16
              refine lv_tableIn (off := 70) (tgt := 84) hx hb dX10_line_14 (by rw [c16]; decide) (by rw [c16]; decide) (by rw [c16]; rfl) (by decide) ?_
              refine lv_aload_n hx hb dX10_line_84 rfl (lv_at hl 0 rfl) ?_
              refine k_get (q0 := 0) (k := 6) (ci := 10) (v := .ref (ad 26)) hx hb hts inX10_line_X10 hown hI rfl rfl (by decide) mX10_line_fieldLink_60_StillText_pages_LStillText_Pages rfl rfl dX10_line_85 ?_
              refine lv_iload_n hx hb dX10_line_88 rfl (lv_at hl 1 rfl) ?_
              refine k_cVi (As := [.int x1]) (rest := []) C (c_X2_pageOf σ2 x1 _ h) (cwV 1 hts gX10_line_X2_pageOf rfl rfl rfl hdX2_pageOf ⟨Nat.le_of_ble_eq_true rfl, Nat.le_of_ble_eq_true rfl⟩) hI 26 rfl rfl rfl hl.1 rfl (Nat.le_of_ble_eq_true rfl) dX10_line_89 ⟨Nat.le_of_ble_eq_true rfl, Nat.le_of_ble_eq_true rfl⟩ (fun r17 σ18 H locs h hI => ?_)
              exact k_iret hx hb hr hlocks hI h dX10_line_92
            · replace h := h.2 c16
              have ec4 := lv_neT c4 (a := 0) (by decide)
              have ec7 := lv_neT c7 (a := 1) (by decide)
              have ec10 := lv_neT c10 (a := 2) (by decide)
              have ec13 := lv_neT c13 (a := 3) (by decide)
              have ec16 := lv_neT c16 (a := 4) (by decide)
              refine lv_tableOut (tgt := 93) hx hb dX10_line_14 (by omega) (by decide) ?_
              refine lv_iconst (v := (-1)) hx hb dX10_line_93 (by decide) ?_
              exact k_iret hx hb hr hlocks hI h dX10_line_94
  · replace h := h.2 c3
    refine lv_iconst (v := (-1)) hx hb dX10_line_11 (by decide) ?_
    exact k_iret hx hb hr hlocks hI h dX10_line_12
theorem inX6_signAt_X6 : ∀ w ∈ wsX60, w ∈ wsX6_signAt := fun _ h => List.mem_cons_of_mem _ (List.mem_append_right _ (h))
theorem mX6_signAt_fieldLink_11_StillText_Strip_signs_I : Cond.fieldLink RX6 11 "StillText$Strip" "signs" "[I" ∈ wsX6_signAt := List.mem_cons_of_mem _ (List.mem_append_left _ (List.mem_of_getElem? (i := 0) rfl))
theorem mX6_signAt_fieldLink_18_StillText_Strip_begins_I : Cond.fieldLink RX6 18 "StillText$Strip" "begins" "[I" ∈ wsX6_signAt := List.mem_cons_of_mem _ (List.mem_append_left _ (List.mem_of_getElem? (i := 1) rfl))
set_option maxHeartbeats 4000000 in
set_option maxRecDepth 100000 in
theorem c_X6_signAt (σ : St) (x1 x2 x3 : Int32) (Q : Int32 → St → Prop) (h : wp_X6_signAt σ x1 x2 x3 Q) : Ci l D (tyE cyI cyZ) NwC (ZsC tL tS) (wC cyI cyZ ad) yX6_signAt wsX6_signAt r_X6_signAt [.ref (ad 15), .int x1, .int x2, .int x3] σ Q := by
  refine k_metI (cc := cX6_signAt) (maxL := 4) (ret := (some .int)) (by decide) rfl (Nat.le_of_ble_eq_true rfl) ?_
  intro p e s m below meth c A ls C hI hl
  obtain ⟨hx, hb, hr, hml, hown, hts, hlocks⟩ := id C
  have hl : lv_has ls 4 [(0, .ref (ad 15)), (1, .int x1), (2, .int x2), (3, .int x3)] := hl
  unfold wp_X6_signAt at h
  refine lv_iload_n hx hb dX6_signAt_0 rfl (lv_at hl 3 rfl) ?_
  refine lv_if_lt (tgt := 14) hx hb dX6_signAt_1 (by decide) (fun c1 => ?_) (fun c1 => ?_)
  · replace h := h.1 c1
    refine lv_iconst (v := (-1)) hx hb dX6_signAt_14 (by decide) ?_
    exact k_iret hx hb hr hlocks hI h dX6_signAt_15
  · replace h := h.2 c1
    refine lv_iload_n hx hb dX6_signAt_4 rfl (lv_at hl 3 rfl) ?_
    refine lv_aload_n hx hb dX6_signAt_5 rfl (lv_at hl 0 rfl) ?_
    refine lv_iload_n hx hb dX6_signAt_6 rfl (lv_at hl 1 rfl) ?_
    refine lv_iload_n hx hb dX6_signAt_7 rfl (lv_at hl 2 rfl) ?_
    refine k_cVi (As := [.int x1, .int x2]) (rest := [.int x3]) C (c_X6_signsOf σ x1 x2 _ h) (cwV 2 hts gX6_signAt_X6_signsOf rfl rfl rfl hdX6_signsOf ⟨Nat.le_of_ble_eq_true rfl, Nat.le_of_ble_eq_true rfl⟩) hI 15 rfl rfl rfl hl.1 rfl (Nat.le_of_ble_eq_true rfl) dX6_signAt_8 ⟨Nat.le_of_ble_eq_true rfl, Nat.le_of_ble_eq_true rfl⟩ (fun r2 σ3 H locs h hI => ?_)
    refine lv_icmp_lt (tgt := 16) hx hb dX6_signAt_11 (by decide) (fun c4 => ?_) (fun c4 => ?_)
    · replace h := h.1 c4
      refine lv_iload_n hx hb dX6_signAt_16 rfl (lv_at hl 3 rfl) ?_
      refine lv_aload_n hx hb dX6_signAt_17 rfl (lv_at hl 0 rfl) ?_
      refine lv_iload_n hx hb dX6_signAt_18 rfl (lv_at hl 1 rfl) ?_
      refine lv_iload_n hx hb dX6_signAt_19 rfl (lv_at hl 2 rfl) ?_
      refine k_cVi (As := [.int x1, .int x2]) (rest := [.int x3]) C (c_X6_body σ3 x1 x2 _ h) (cwV 2 hts gX6_signAt_X6_body rfl rfl rfl hdX6_body ⟨Nat.le_of_ble_eq_true rfl, Nat.le_of_ble_eq_true rfl⟩) hI 15 rfl rfl rfl hl.1 rfl (Nat.le_of_ble_eq_true rfl) dX6_signAt_20 ⟨Nat.le_of_ble_eq_true rfl, Nat.le_of_ble_eq_true rfl⟩ (fun r5 σ6 H locs h hI => ?_)
      refine lv_icmp_ge (tgt := 42) hx hb dX6_signAt_23 (by decide) (fun c7 => ?_) (fun c7 => ?_)
      · replace h := h.1 c7
        refine lv_bipush (v := nI 45) hx hb dX6_signAt_42 (by decide) ?_
        exact k_iret hx hb hr hlocks hI h dX6_signAt_44
      · replace h := h.2 c7
        refine lv_aload_n hx hb dX6_signAt_26 rfl (lv_at hl 0 rfl) ?_
        refine k_get (q0 := 15) (k := 0) (ci := 6) (v := .ref (ad 16)) hx hb hts inX6_signAt_X6 hown hI rfl rfl (by decide) mX6_signAt_fieldLink_11_StillText_Strip_signs_I rfl rfl dX6_signAt_27 ?_
        refine lv_aload_n hx hb dX6_signAt_30 rfl (lv_at hl 0 rfl) ?_
        refine k_get (q0 := 15) (k := 2) (ci := 6) (v := .ref (ad 18)) hx hb hts inX6_signAt_X6 hown hI rfl rfl (by decide) mX6_signAt_fieldLink_18_StillText_Strip_begins_I rfl rfl dX6_signAt_31 ?_
        refine lv_iload_n hx hb dX6_signAt_34 rfl (lv_at hl 1 rfl) ?_
        refine k_iald (q0 := 18) (t0 := 0) (n := 80) (f := σ6 18) hx hb hI rfl rfl h.1 dX6_signAt_35 ?_
        replace h := h.2
        refine lv_iload_n hx hb dX6_signAt_36 rfl (lv_at hl 3 rfl) ?_
        refine lv_iadd hx hb dX6_signAt_37 ?_
        refine k_iald (q0 := 16) (t0 := 0) (n := 1920) (f := σ6 16) hx hb hI rfl rfl h.1 dX6_signAt_38 ?_
        replace h := h.2
        refine lv_goto (tgt := 44) hx hb dX6_signAt_39 (by decide) ?_
        exact k_iret hx hb hr hlocks hI h dX6_signAt_44
    · replace h := h.2 c4
      refine lv_iconst (v := (-1)) hx hb dX6_signAt_14 (by decide) ?_
      exact k_iret hx hb hr hlocks hI h dX6_signAt_15
theorem inX5_signAt_X5 : ∀ w ∈ wsX50, w ∈ wsX5_signAt := fun _ h => List.mem_cons_of_mem _ (List.mem_append_left _ (List.mem_append_right _ (h)))
theorem mX5_signAt_fieldLink_12_StillText_Setting_strip_LStillText_Strip : Cond.fieldLink RX5 12 "StillText$Setting" "strip" "LStillText$Strip;" ∈ wsX5_signAt := List.mem_cons_of_mem _ (List.mem_append_left _ (List.mem_append_left _ (List.mem_append_left _ (List.mem_of_getElem? (i := 0) rfl))))
theorem mX5_signAt_fieldLink_18_StillText_Setting_firsts_I : Cond.fieldLink RX5 18 "StillText$Setting" "firsts" "[I" ∈ wsX5_signAt := List.mem_cons_of_mem _ (List.mem_append_left _ (List.mem_append_left _ (List.mem_append_left _ (List.mem_of_getElem? (i := 1) rfl))))
theorem mX5_signAt_fieldLink_22_StillText_Setting_manys_I : Cond.fieldLink RX5 22 "StillText$Setting" "manys" "[I" ∈ wsX5_signAt := List.mem_cons_of_mem _ (List.mem_append_left _ (List.mem_append_left _ (List.mem_append_left _ (List.mem_of_getElem? (i := 2) rfl))))
set_option maxHeartbeats 4000000 in
set_option maxRecDepth 100000 in
theorem c_X5_signAt (σ : St) (x1 x2 : Int32) (Q : Int32 → St → Prop) (h : wp_X5_signAt σ x1 x2 Q) : Ci l D (tyE cyI cyZ) NwC (ZsC tL tS) (wC cyI cyZ ad) yX5_signAt wsX5_signAt r_X5_signAt [.ref (ad 14), .int x1, .int x2] σ Q := by
  refine k_metI (cc := cX5_signAt) (maxL := 3) (ret := (some .int)) (by decide) rfl (Nat.le_of_ble_eq_true rfl) ?_
  intro p e s m below meth c A ls C hI hl
  obtain ⟨hx, hb, hr, hml, hown, hts, hlocks⟩ := id C
  have hl : lv_has ls 3 [(0, .ref (ad 14)), (1, .int x1), (2, .int x2)] := hl
  unfold wp_X5_signAt at h
  refine lv_aload_n hx hb dX5_signAt_0 rfl (lv_at hl 0 rfl) ?_
  refine lv_iload_n hx hb dX5_signAt_1 rfl (lv_at hl 1 rfl) ?_
  refine k_cVi (As := [.int x1]) (rest := []) C (c_X5_has σ x1 _ h) (cwV 1 hts gX5_signAt_X5_has rfl rfl rfl hdX5_has ⟨Nat.le_of_ble_eq_true rfl, Nat.le_of_ble_eq_true rfl⟩) hI 14 rfl rfl rfl hl.1 rfl (Nat.le_of_ble_eq_true rfl) dX5_signAt_2 ⟨Nat.le_of_ble_eq_true rfl, Nat.le_of_ble_eq_true rfl⟩ (fun r1 σ2 H locs h hI => ?_)
  refine lv_if_eq (tgt := 31) hx hb dX5_signAt_5 (by decide) (fun c3 => ?_) (fun c3 => ?_)
  · replace h := h.1 c3
    refine lv_iconst (v := (-1)) hx hb dX5_signAt_31 (by decide) ?_
    exact k_iret hx hb hr hlocks hI h dX5_signAt_32
  · replace h := h.2 c3
    refine lv_aload_n hx hb dX5_signAt_8 rfl (lv_at hl 0 rfl) ?_
    refine k_get (q0 := 14) (k := 0) (ci := 5) (v := .ref (ad 15)) hx hb hts inX5_signAt_X5 hown hI rfl rfl (by decide) mX5_signAt_fieldLink_12_StillText_Setting_strip_LStillText_Strip rfl rfl dX5_signAt_9 ?_
    refine lv_aload_n hx hb dX5_signAt_12 rfl (lv_at hl 0 rfl) ?_
    refine k_get (q0 := 14) (k := 1) (ci := 5) (v := .ref (ad 21)) hx hb hts inX5_signAt_X5 hown hI rfl rfl (by decide) mX5_signAt_fieldLink_18_StillText_Setting_firsts_I rfl rfl dX5_signAt_13 ?_
    refine lv_iload_n hx hb dX5_signAt_16 rfl (lv_at hl 1 rfl) ?_
    refine k_iald (q0 := 21) (t0 := 0) (n := 80) (f := σ2 21) hx hb hI rfl rfl h.1 dX5_signAt_17 ?_
    replace h := h.2
    refine lv_aload_n hx hb dX5_signAt_18 rfl (lv_at hl 0 rfl) ?_
    refine k_get (q0 := 14) (k := 2) (ci := 5) (v := .ref (ad 22)) hx hb hts inX5_signAt_X5 hown hI rfl rfl (by decide) mX5_signAt_fieldLink_22_StillText_Setting_manys_I rfl rfl dX5_signAt_19 ?_
    refine lv_iload_n hx hb dX5_signAt_22 rfl (lv_at hl 1 rfl) ?_
    refine k_iald (q0 := 22) (t0 := 0) (n := 80) (f := σ2 22) hx hb hI rfl rfl h.1 dX5_signAt_23 ?_
    replace h := h.2
    refine lv_iload_n hx hb dX5_signAt_24 rfl (lv_at hl 2 rfl) ?_
    refine k_cVi (As := [.int (σ2 21 x1.toNatClampNeg), .int (σ2 22 x1.toNatClampNeg), .int x2]) (rest := []) C (c_X6_signAt σ2 (σ2 21 x1.toNatClampNeg) (σ2 22 x1.toNatClampNeg) x2 _ h) (cwV 3 hts gX5_signAt_X6_signAt rfl rfl rfl hdX6_signAt ⟨Nat.le_of_ble_eq_true rfl, Nat.le_of_ble_eq_true rfl⟩) hI 15 rfl rfl rfl hl.1 rfl (Nat.le_of_ble_eq_true rfl) dX5_signAt_25 ⟨Nat.le_of_ble_eq_true rfl, Nat.le_of_ble_eq_true rfl⟩ (fun r4 σ5 H locs h hI => ?_)
    refine lv_goto (tgt := 32) hx hb dX5_signAt_28 (by decide) ?_
    exact k_iret hx hb hr hlocks hI h dX5_signAt_32
theorem inX10_sign_X10 : ∀ w ∈ wsX100, w ∈ wsX10_sign := fun _ h => List.mem_cons_of_mem _ (List.mem_append_left _ (List.mem_append_left _ (List.mem_append_right _ (h))))
theorem mX10_sign_fieldLink_40_StillText_setting_LStillText_Setting : Cond.fieldLink RX10 40 "StillText" "setting" "LStillText$Setting;" ∈ wsX10_sign := List.mem_cons_of_mem _ (List.mem_append_left _ (List.mem_append_left _ (List.mem_append_left _ (List.mem_append_left _ (List.mem_of_getElem? (i := 0) rfl)))))
set_option maxHeartbeats 4000000 in
set_option maxRecDepth 100000 in
theorem c_X10_sign (σ : St) (x1 x2 : Int32) (Q : Int32 → St → Prop) (h : wp_X10_sign σ x1 x2 Q) : Ci l D (tyE cyI cyZ) NwC (ZsC tL tS) (wC cyI cyZ ad) yX10_sign wsX10_sign r_X10_sign [.ref (ad 0), .int x1, .int x2] σ Q := by
  refine k_metI (cc := cX10_sign) (maxL := 3) (ret := (some .int)) (by decide) rfl (Nat.le_of_ble_eq_true rfl) ?_
  intro p e s m below meth c A ls C hI hl
  obtain ⟨hx, hb, hr, hml, hown, hts, hlocks⟩ := id C
  have hl : lv_has ls 3 [(0, .ref (ad 0)), (1, .int x1), (2, .int x2)] := hl
  unfold wp_X10_sign at h
  refine lv_aload_n hx hb dX10_sign_0 rfl (lv_at hl 0 rfl) ?_
  refine k_get (q0 := 0) (k := 4) (ci := 10) (v := .ref (ad 14)) hx hb hts inX10_sign_X10 hown hI rfl rfl (by decide) mX10_sign_fieldLink_40_StillText_setting_LStillText_Setting rfl rfl dX10_sign_1 ?_
  refine lv_iload_n hx hb dX10_sign_4 rfl (lv_at hl 1 rfl) ?_
  refine lv_iload_n hx hb dX10_sign_5 rfl (lv_at hl 2 rfl) ?_
  refine k_cVi (As := [.int x1, .int x2]) (rest := []) C (c_X5_signAt σ x1 x2 _ h) (cwV 2 hts gX10_sign_X5_signAt rfl rfl rfl hdX5_signAt ⟨Nat.le_of_ble_eq_true rfl, Nat.le_of_ble_eq_true rfl⟩) hI 14 rfl rfl rfl hl.1 rfl (Nat.le_of_ble_eq_true rfl) dX10_sign_6 ⟨Nat.le_of_ble_eq_true rfl, Nat.le_of_ble_eq_true rfl⟩ (fun r1 σ2 H locs h hI => ?_)
  exact k_iret hx hb hr hlocks hI h dX10_sign_9
theorem inX5_riversAt_X5 : ∀ w ∈ wsX50, w ∈ wsX5_riversAt := fun _ h => List.mem_cons_of_mem _ (List.mem_append_left _ (List.mem_append_right _ (h)))
theorem mX5_riversAt_fieldLink_32_StillText_Setting_count_I : Cond.fieldLink RX5 32 "StillText$Setting" "count" "I" ∈ wsX5_riversAt := List.mem_cons_of_mem _ (List.mem_append_left _ (List.mem_append_left _ (List.mem_append_left _ (List.mem_of_getElem? (i := 0) rfl))))
set_option maxHeartbeats 4000000 in
set_option maxRecDepth 100000 in
theorem t_X5_riversAt_8 {p : Program} {e : Env} {s : State} {m : MethodId} {args : Array Value} {below : List Frame} {meth : Method} {c : Code} {A : Nat → Prop} {x1 x2 : Int32}  {Q : Int32 → St → Prop} (C : Cx p s m args meth c cX5_riversAt 6 (some .int) RX5 wsX5_riversAt) :
    ∀ (n : Nat) (σ : St) (x3 x4 x5 : Int32) (H : Heap) (locs : List Loc) (ls : Array Slot), wpl_X5_riversAt_8 x1 x2 Q n σ x3 x4 x5 → Iw D (tyE cyI cyZ) NwC (ZsC tL tS) (wC cyI cyZ ad) A s H locs σ → lv_has ls 6 [(0, .ref (ad 14)), (1, .int x1), (2, .int x2), (3, .int x3), (4, .int x4), (5, .int x5)] → W p l e r_X5_riversAt s m args below meth c H locs 0 0 (MQ below (va_Qi Q (Kq D (tyE cyI cyZ) (wC cyI cyZ ad) A) A) args s 0 0 A) (F0 m 8 ls []) := by
  obtain ⟨hx, hb, hr, hml, hown, hts, hlocks⟩ := id C
  intro n
  induction n with
  | zero =>
    intro _ _ _ _ _ _ _ h
    exact h.elim
  | succ n ih =>
    intro σ x3 x4 x5 H locs ls h hI hl
    unfold wpl_X5_riversAt_8 at h
    refine lv_iload hx hb dX5_riversAt_8 (lv_at hl 5 rfl) ?_
    refine lv_aload_n hx hb dX5_riversAt_10 rfl (lv_at hl 0 rfl) ?_
    refine k_get (q0 := 14) (k := 3) (ci := 5) (v := .int (σ 14 3)) hx hb hts inX5_riversAt_X5 hown hI rfl rfl (by decide) mX5_riversAt_fieldLink_32_StillText_Setting_count_I rfl rfl dX5_riversAt_11 ?_
    refine lv_icmp_ge (tgt := 56) hx hb dX5_riversAt_14 (by decide) (fun c1 => ?_) (fun c1 => ?_)
    · replace h := h.1 c1
      refine lv_iload_n hx hb dX5_riversAt_56 rfl (lv_at hl 3 rfl) ?_
      exact k_iret hx hb hr hlocks hI h dX5_riversAt_57
    · replace h := h.2 c1
      refine lv_aload_n hx hb dX5_riversAt_17 rfl (lv_at hl 0 rfl) ?_
      refine lv_iload hx hb dX5_riversAt_18 (lv_at hl 5 rfl) ?_
      refine lv_iload_n hx hb dX5_riversAt_20 rfl (lv_at hl 1 rfl) ?_
      refine k_cVi (As := [.int x5, .int x1]) (rest := []) C (c_X5_signAt σ x5 x1 _ h) (cwV 2 hts gX5_riversAt_X5_signAt rfl rfl rfl hdX5_signAt ⟨Nat.le_of_ble_eq_true rfl, Nat.le_of_ble_eq_true rfl⟩) hI 14 rfl rfl rfl hl.1 rfl (Nat.le_of_ble_eq_true rfl) dX5_riversAt_21 ⟨Nat.le_of_ble_eq_true rfl, Nat.le_of_ble_eq_true rfl⟩ (fun r2 σ3 H locs h hI => ?_)
      refine lv_bipush (v := nI 32) hx hb dX5_riversAt_24 (by decide) ?_
      refine lv_icmp_ne (tgt := 36) hx hb dX5_riversAt_26 (by decide) (fun c4 => ?_) (fun c4 => ?_)
      · replace h := h.1 c4
        refine lv_iconst (v := nI 0) hx hb dX5_riversAt_36 (by decide) ?_
        refine lv_istore (lv' := [(4, .int (nI 0)), (0, .ref (ad 14)), (1, .int x1), (2, .int x2), (3, .int x3), (5, .int x5)]) hx hb dX5_riversAt_37 hl (by decide) rfl (fun ls hl => ?_)
        refine lv_iload hx hb dX5_riversAt_39 (lv_at hl 0 rfl) ?_
        refine lv_iconst (v := nI 1) hx hb dX5_riversAt_41 (by decide) ?_
        refine lv_isub hx hb dX5_riversAt_42 ?_
        refine lv_iload_n hx hb dX5_riversAt_43 rfl (lv_at hl 3 rfl) ?_
        refine lv_icmp_ne (tgt := 50) hx hb dX5_riversAt_44 (by decide) (fun c5 => ?_) (fun c5 => ?_)
        · replace h := h.1 c5
          refine lv_iinc (v := (x5 + nI 1)) (lv' := [(5, .int (x5 + nI 1)), (4, .int (nI 0)), (0, .ref (ad 14)), (1, .int x1), (2, .int x2), (3, .int x3)]) hx hb dX5_riversAt_50 hl (k := 5) rfl rfl (by decide) rfl (fun ls hl => ?_)
          refine lv_goto (tgt := 8) hx hb dX5_riversAt_53 (by decide) ?_
          exact ih _ _ _ _ _ _ _ h hI (lv_sub hl [2, 3, 4, 5, 1, 0] rfl)
        · replace h := h.2 c5
          refine lv_iinc (v := (x3 + nI 1)) (lv' := [(3, .int (x3 + nI 1)), (4, .int (nI 0)), (0, .ref (ad 14)), (1, .int x1), (2, .int x2), (5, .int x5)]) hx hb dX5_riversAt_47 hl (k := 4) rfl rfl (by decide) rfl (fun ls hl => ?_)
          refine lv_iinc (v := (x5 + nI 1)) (lv' := [(5, .int (x5 + nI 1)), (3, .int (x3 + nI 1)), (4, .int (nI 0)), (0, .ref (ad 14)), (1, .int x1), (2, .int x2)]) hx hb dX5_riversAt_50 hl (k := 5) rfl rfl (by decide) rfl (fun ls hl => ?_)
          refine lv_goto (tgt := 8) hx hb dX5_riversAt_53 (by decide) ?_
          exact ih _ _ _ _ _ _ _ h hI (lv_sub hl [3, 4, 5, 1, 2, 0] rfl)
      · replace h := h.2 c4
        refine lv_iload hx hb dX5_riversAt_29 (lv_at hl 4 rfl) ?_
        refine lv_iconst (v := nI 1) hx hb dX5_riversAt_31 (by decide) ?_
        refine lv_iadd hx hb dX5_riversAt_32 ?_
        refine lv_goto (tgt := 37) hx hb dX5_riversAt_33 (by decide) ?_
        refine lv_istore (lv' := [(4, .int (x4 + (nI 1))), (0, .ref (ad 14)), (1, .int x1), (2, .int x2), (3, .int x3), (5, .int x5)]) hx hb dX5_riversAt_37 hl (by decide) rfl (fun ls hl => ?_)
        refine lv_iload hx hb dX5_riversAt_39 (lv_at hl 0 rfl) ?_
        refine lv_iconst (v := nI 1) hx hb dX5_riversAt_41 (by decide) ?_
        refine lv_isub hx hb dX5_riversAt_42 ?_
        refine lv_iload_n hx hb dX5_riversAt_43 rfl (lv_at hl 3 rfl) ?_
        refine lv_icmp_ne (tgt := 50) hx hb dX5_riversAt_44 (by decide) (fun c6 => ?_) (fun c6 => ?_)
        · replace h := h.1 c6
          refine lv_iinc (v := (x5 + nI 1)) (lv' := [(5, .int (x5 + nI 1)), (4, .int (x4 + (nI 1))), (0, .ref (ad 14)), (1, .int x1), (2, .int x2), (3, .int x3)]) hx hb dX5_riversAt_50 hl (k := 5) rfl rfl (by decide) rfl (fun ls hl => ?_)
          refine lv_goto (tgt := 8) hx hb dX5_riversAt_53 (by decide) ?_
          exact ih _ _ _ _ _ _ _ h hI (lv_sub hl [2, 3, 4, 5, 1, 0] rfl)
        · replace h := h.2 c6
          refine lv_iinc (v := (x3 + nI 1)) (lv' := [(3, .int (x3 + nI 1)), (4, .int (x4 + (nI 1))), (0, .ref (ad 14)), (1, .int x1), (2, .int x2), (5, .int x5)]) hx hb dX5_riversAt_47 hl (k := 4) rfl rfl (by decide) rfl (fun ls hl => ?_)
          refine lv_iinc (v := (x5 + nI 1)) (lv' := [(5, .int (x5 + nI 1)), (3, .int (x3 + nI 1)), (4, .int (x4 + (nI 1))), (0, .ref (ad 14)), (1, .int x1), (2, .int x2)]) hx hb dX5_riversAt_50 hl (k := 5) rfl rfl (by decide) rfl (fun ls hl => ?_)
          refine lv_goto (tgt := 8) hx hb dX5_riversAt_53 (by decide) ?_
          exact ih _ _ _ _ _ _ _ h hI (lv_sub hl [3, 4, 5, 1, 2, 0] rfl)
set_option maxHeartbeats 4000000 in
set_option maxRecDepth 100000 in
theorem c_X5_riversAt (σ : St) (x1 x2 : Int32) (Q : Int32 → St → Prop) (h : wp_X5_riversAt σ x1 x2 Q) : Ci l D (tyE cyI cyZ) NwC (ZsC tL tS) (wC cyI cyZ ad) yX5_riversAt wsX5_riversAt r_X5_riversAt [.ref (ad 14), .int x1, .int x2] σ Q := by
  refine k_metI (cc := cX5_riversAt) (maxL := 6) (ret := (some .int)) (by decide) rfl (Nat.le_of_ble_eq_true rfl) ?_
  intro p e s m below meth c A ls C hI hl
  obtain ⟨hx, hb, hr, hml, hown, hts, hlocks⟩ := id C
  have hl : lv_has ls 6 [(0, .ref (ad 14)), (1, .int x1), (2, .int x2)] := hl
  unfold wp_X5_riversAt at h
  refine lv_iconst (v := nI 0) hx hb dX5_riversAt_0 (by decide) ?_
  refine lv_istore_n (lv' := [(3, .int (nI 0)), (0, .ref (ad 14)), (1, .int x1), (2, .int x2)]) hx hb dX5_riversAt_1 rfl hl (by decide) rfl (fun ls hl => ?_)
  refine lv_iconst (v := nI 0) hx hb dX5_riversAt_2 (by decide) ?_
  refine lv_istore (lv' := [(4, .int (nI 0)), (3, .int (nI 0)), (0, .ref (ad 14)), (1, .int x1), (2, .int x2)]) hx hb dX5_riversAt_3 hl (by decide) rfl (fun ls hl => ?_)
  refine lv_iconst (v := nI 0) hx hb dX5_riversAt_5 (by decide) ?_
  refine lv_istore (lv' := [(5, .int (nI 0)), (4, .int (nI 0)), (3, .int (nI 0)), (0, .ref (ad 14)), (1, .int x1), (2, .int x2)]) hx hb dX5_riversAt_6 hl (by decide) rfl (fun ls hl => ?_)
  obtain ⟨k7, h⟩ := h
  exact t_X5_riversAt_8 C  k7 _ _ _ _ _ _ _ h hI (lv_sub hl [3, 4, 5, 2, 1, 0] rfl)
end
